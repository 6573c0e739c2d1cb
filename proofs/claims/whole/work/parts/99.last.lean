set_option maxHeartbeats 4000000 in
set_option maxRecDepth 100000 in
theorem c_J6_bitCount_0f7a4 (l : Launch) (D : va_G) (k : Nat → ClassId) (sz : Nat) (x : Int32) : Met l yJ6_bitCount_0f7a4 wsJ6_bitCount_0f7a4 ({ frames := 0, cells := 0, slots := 0, locals := 0 } : Room) (va_Pc [.int x] (zPre D k [] sz zX0)) (zQi D [] sz (bitc x) (fun w : va_W => w = [])) 0 0 (va_A [] sz) := by
  refine va_MetF (cc := cJ6_bitCount_0f7a4) (maxL := 1) (ret := (some .int)) (by decide +kernel) rfl ?_
  intro p e s m args below meth c s₁ B hml hv
  obtain ⟨rfl, hsz, hP, hK, hD0, hE⟩ := hv
  have hx := B.exec
  have hb := B.bytes
  have hr := B.returns
  have hts := atoms_spec (ws := wsJ6_bitCount_0f7a4) B.pre
  have hown : s.vm.findClass RJ6 = some m.cls := findClass_of_methodNamed B.named
  have hlocks := B.notSynchronized
  subst hsz
  have hD := hD0.self (sz := s.heap.size)
  delta zQi zB
  generalize hAe : va_A [] s.heap.size = A at hD hE ⊢
  have hA : ∀ q : Nat, s.heap.size ≤ q → A q := fun q h => by rw [← hAe]; exact Or.inr h
  have hS : va_S A s.heap s.heap [] := va_S.rf
  have hl := lv_entry [.int x] (n := 1) (Nat.le_of_ble_eq_true rfl)
  rw [lg_entry_eq]
  generalize (lg_sl [.int x] ++ List.replicate (1 - (lg_sl [.int x]).length) Slot.unset).toArray = ls at hl ⊢
  have hl : lv_has ls 1 [(0, .int x)] := hl
  have hl265 : (Cond.constant RJ6 265 (1431655765)).before #[Value.int x] s = true := zw hts 1 rfl
  have hl266 : (Cond.constant RJ6 266 (858993459)).before #[Value.int x] s = true := zw hts 2 rfl
  have hl267 : (Cond.constant RJ6 267 (252645135)).before #[Value.int x] s = true := zw hts 3 rfl
  refine lv_iload_n hx hb dJ6_bitCount_0f7a4_0 rfl (lv_at hl 0 rfl) ?_
  refine lv_iload_n hx hb dJ6_bitCount_0f7a4_1 rfl (lv_at hl 0 rfl) ?_
  refine lv_iconst (v := 1) hx hb dJ6_bitCount_0f7a4_2 (by decide) ?_
  refine lv_iushr (v := iushr x 1) hx hb dJ6_bitCount_0f7a4_3 rfl ?_
  refine lv_ldcw hx hb hown hl265 dJ6_bitCount_0f7a4_4 ?_
  refine lv_iand hx hb dJ6_bitCount_0f7a4_7 ?_
  refine lv_isub hx hb dJ6_bitCount_0f7a4_8 ?_
  refine lv_topi (fun x_1 ex_1 => ?_)
  refine lv_istore_n (lv' := [(0, .int x_1)]) hx hb dJ6_bitCount_0f7a4_9 rfl hl (by decide) rfl (fun ls hl => ?_)
  refine lv_iload_n hx hb dJ6_bitCount_0f7a4_10 rfl (lv_at hl 0 rfl) ?_
  refine lv_ldcw hx hb hown hl266 dJ6_bitCount_0f7a4_11 ?_
  refine lv_iand hx hb dJ6_bitCount_0f7a4_14 ?_
  refine lv_iload_n hx hb dJ6_bitCount_0f7a4_15 rfl (lv_at hl 0 rfl) ?_
  refine lv_iconst (v := 2) hx hb dJ6_bitCount_0f7a4_16 (by decide) ?_
  refine lv_iushr (v := iushr x_1 2) hx hb dJ6_bitCount_0f7a4_17 rfl ?_
  refine lv_ldcw hx hb hown hl266 dJ6_bitCount_0f7a4_18 ?_
  refine lv_iand hx hb dJ6_bitCount_0f7a4_21 ?_
  refine lv_iadd hx hb dJ6_bitCount_0f7a4_22 ?_
  refine lv_topi (fun x_2 ex_2 => ?_)
  refine lv_istore_n (lv' := [(0, .int x_2)]) hx hb dJ6_bitCount_0f7a4_23 rfl hl (by decide) rfl (fun ls hl => ?_)
  refine lv_iload_n hx hb dJ6_bitCount_0f7a4_24 rfl (lv_at hl 0 rfl) ?_
  refine lv_iload_n hx hb dJ6_bitCount_0f7a4_25 rfl (lv_at hl 0 rfl) ?_
  refine lv_iconst (v := 4) hx hb dJ6_bitCount_0f7a4_26 (by decide) ?_
  refine lv_iushr (v := iushr x_2 4) hx hb dJ6_bitCount_0f7a4_27 rfl ?_
  refine lv_iadd hx hb dJ6_bitCount_0f7a4_28 ?_
  refine lv_ldcw hx hb hown hl267 dJ6_bitCount_0f7a4_29 ?_
  refine lv_iand hx hb dJ6_bitCount_0f7a4_32 ?_
  refine lv_topi (fun x_3 ex_3 => ?_)
  refine lv_istore_n (lv' := [(0, .int x_3)]) hx hb dJ6_bitCount_0f7a4_33 rfl hl (by decide) rfl (fun ls hl => ?_)
  refine lv_iload_n hx hb dJ6_bitCount_0f7a4_34 rfl (lv_at hl 0 rfl) ?_
  refine lv_iload_n hx hb dJ6_bitCount_0f7a4_35 rfl (lv_at hl 0 rfl) ?_
  refine lv_bipush (v := 8) hx hb dJ6_bitCount_0f7a4_36 (by decide) ?_
  refine lv_iushr (v := iushr x_3 8) hx hb dJ6_bitCount_0f7a4_38 rfl ?_
  refine lv_iadd hx hb dJ6_bitCount_0f7a4_39 ?_
  refine lv_topi (fun x_4 ex_4 => ?_)
  refine lv_istore_n (lv' := [(0, .int x_4)]) hx hb dJ6_bitCount_0f7a4_40 rfl hl (by decide) rfl (fun ls hl => ?_)
  refine lv_iload_n hx hb dJ6_bitCount_0f7a4_41 rfl (lv_at hl 0 rfl) ?_
  refine lv_iload_n hx hb dJ6_bitCount_0f7a4_42 rfl (lv_at hl 0 rfl) ?_
  refine lv_bipush (v := 16) hx hb dJ6_bitCount_0f7a4_43 (by decide) ?_
  refine lv_iushr (v := iushr x_4 16) hx hb dJ6_bitCount_0f7a4_45 rfl ?_
  refine lv_iadd hx hb dJ6_bitCount_0f7a4_46 ?_
  refine lv_topi (fun x_5 ex_5 => ?_)
  refine lv_istore_n (lv' := [(0, .int x_5)]) hx hb dJ6_bitCount_0f7a4_47 rfl hl (by decide) rfl (fun ls hl => ?_)
  refine lv_iload_n hx hb dJ6_bitCount_0f7a4_48 rfl (lv_at hl 0 rfl) ?_
  refine lv_bipush (v := 63) hx hb dJ6_bitCount_0f7a4_49 (by decide) ?_
  refine lv_iand hx hb dJ6_bitCount_0f7a4_51 ?_
  have hP9 := hP.sub (ws' := []) [] rfl
  have hD9 := hD.sub (ws' := []) [] (by decide) rfl
  exact W.iret (v := x_5 &&& 63) hx hb hr (fun t9 ht9 hW9 => ⟨⟨(x_5 &&& 63), [], rfl, ⟨by (simp only [ex_1, ex_2, ex_3, ex_4, ex_5]; rfl), rfl⟩, by rw [ht9]; exact hP9, hD9⟩, hS.F ht9⟩) hS.2.2 dJ6_bitCount_0f7a4_52
set_option maxHeartbeats 4000000 in
set_option maxRecDepth 100000 in
theorem c_X8_setGyro_ok (l : Launch) (D : va_G) (k : Nat → ClassId) (sz : Nat) (hm p0 c0 n0 n1 n2 n3 n4 n5 n6 n7 n8 b0 e0 f0 l1 l2 l3 l4 l5 : Nat) (u : zS) (i : Nat) (b s2 a t2 : Int32) (hi : i < 3) (h0 : zin (nI i) 0 2 = true) (h1 : zin b (-100000) 100000 = true) (h2 : zin s2 (-10000) 10000 = true) (h3 : zin a 0 10000 = true) (h4 : zin t2 (-1000) 1000 = true) : Met l yX8_setGyro wsX8_setGyro ({ frames := 2, cells := 0, slots := 0, locals := 45 } : Room) (va_Pc [.ref hm, .int (nI i), .int b, .int s2, .int a, .int t2] (zPre D k [(hm, .inr (7, [.ref p0, .ref c0, .ref n0, .ref b0, .ref e0, .ref f0, .ref l1, .ref l2, .ref l3, .ref l4, .ref l5, .int (u.2.1 11 2), .int (msk (u.2.2.2 1)), .long (u.1 9 0)])), (n0, .inr (6, [.ref n1, .ref n2, .ref n3, .ref n4, .ref n5, .ref n6, .ref n7, .ref n8, .int (u.2.1 11 0), .int (u.2.1 11 1)])), (n1, zaI k 3 (u.2.1 0)), (n2, zaI k 3 (u.2.1 1)), (n3, zaI k 3 (u.2.1 2)), (n4, zaI k 3 (u.2.1 3))] sz zX0)) (zQi D [(hm, .inr (7, [.ref p0, .ref c0, .ref n0, .ref b0, .ref e0, .ref f0, .ref l1, .ref l2, .ref l3, .ref l4, .ref l5, .int (u.2.1 11 2), .int (msk (u.2.2.2 1)), .long (u.1 9 0)])), (n0, .inr (6, [.ref n1, .ref n2, .ref n3, .ref n4, .ref n5, .ref n6, .ref n7, .ref n8, .int (u.2.1 11 0), .int (u.2.1 11 1)])), (n1, zaI k 3 (u.2.1 0)), (n2, zaI k 3 (u.2.1 1)), (n3, zaI k 3 (u.2.1 2)), (n4, zaI k 3 (u.2.1 3))] sz 0 (fun w : va_W => w = [(hm, .inr (7, [.ref p0, .ref c0, .ref n0, .ref b0, .ref e0, .ref f0, .ref l1, .ref l2, .ref l3, .ref l4, .ref l5, .int (u.2.1 11 2), .int (msk (u.2.2.2 1)), .long (u.1 9 0)])), (n0, .inr (6, [.ref n1, .ref n2, .ref n3, .ref n4, .ref n5, .ref n6, .ref n7, .ref n8, .int (u.2.1 11 0), .int (u.2.1 11 1)])), (n1, zaI k 3 (upd (u.2.1 0) i b)), (n2, zaI k 3 (upd (u.2.1 1) i s2)), (n3, zaI k 3 (upd (u.2.1 2) i a)), (n4, zaI k 3 (upd (u.2.1 3) i t2))])) 0 0 (va_A [(hm, .inr (7, [.ref p0, .ref c0, .ref n0, .ref b0, .ref e0, .ref f0, .ref l1, .ref l2, .ref l3, .ref l4, .ref l5, .int (u.2.1 11 2), .int (msk (u.2.2.2 1)), .long (u.1 9 0)])), (n0, .inr (6, [.ref n1, .ref n2, .ref n3, .ref n4, .ref n5, .ref n6, .ref n7, .ref n8, .int (u.2.1 11 0), .int (u.2.1 11 1)])), (n1, zaI k 3 (u.2.1 0)), (n2, zaI k 3 (u.2.1 1)), (n3, zaI k 3 (u.2.1 2)), (n4, zaI k 3 (u.2.1 3))] sz) := by
  refine Met.ofW (cc := cX8_setGyro) (maxL := 6) (ret := (some .int)) (by decide) rfl ?_
  intro p e s m args below meth c s₁ B hml hv
  obtain ⟨rfl, hsz, hP, hK, hD0, hE⟩ := hv
  have hx := B.exec
  have hb := B.bytes
  have hr := B.returns
  have hts := atoms_spec (ws := wsX8_setGyro) B.pre
  have hown : s.vm.findClass RX8 = some m.cls := findClass_of_methodNamed B.named
  have hlocks := B.notSynchronized
  subst hsz
  have hD := hD0.self (sz := s.heap.size)
  delta zQi zB
  generalize hAe : va_A [(hm, .inr (7, [.ref p0, .ref c0, .ref n0, .ref b0, .ref e0, .ref f0, .ref l1, .ref l2, .ref l3, .ref l4, .ref l5, .int (u.2.1 11 2), .int (msk (u.2.2.2 1)), .long (u.1 9 0)])), (n0, .inr (6, [.ref n1, .ref n2, .ref n3, .ref n4, .ref n5, .ref n6, .ref n7, .ref n8, .int (u.2.1 11 0), .int (u.2.1 11 1)])), (n1, zaI k 3 (u.2.1 0)), (n2, zaI k 3 (u.2.1 1)), (n3, zaI k 3 (u.2.1 2)), (n4, zaI k 3 (u.2.1 3))] s.heap.size = A at hD hE ⊢
  have hA : ∀ q : Nat, s.heap.size ≤ q → A q := fun q h => by rw [← hAe]; exact Or.inr h
  have hS : va_S A s.heap s.heap [] := va_S.rf
  have hl := lv_entry [.ref hm, .int (nI i), .int b, .int s2, .int a, .int t2] (n := 6) (Nat.le_of_ble_eq_true rfl)
  rw [lg_entry_eq]
  generalize (lg_sl [.ref hm, .int (nI i), .int b, .int s2, .int a, .int t2] ++ List.replicate (6 - (lg_sl [.ref hm, .int (nI i), .int b, .int s2, .int a, .int t2]).length) Slot.unset).toArray = ls at hl ⊢
  have hl : lv_has ls 6 [(0, .ref hm), (1, .int (nI i)), (2, .int b), (3, .int s2), (4, .int a), (5, .int t2)] := hl
  have hl73 : (Cond.constantLong RX8 73 (100000)).before #[Value.ref hm, Value.int (nI i), Value.int b, Value.int s2, Value.int a, Value.int t2] s = true := zw hts 1 rfl
  have hl79 : (Cond.constantLong RX8 79 (10000)).before #[Value.ref hm, Value.int (nI i), Value.int b, Value.int s2, Value.int a, Value.int t2] s = true := zw hts 2 rfl
  have hl85 : (Cond.constantLong RX8 85 (1000)).before #[Value.ref hm, Value.int (nI i), Value.int b, Value.int s2, Value.int a, Value.int t2] s = true := zw hts 3 rfl
  have hl26 : (Cond.fieldLink RX8 26 "InertialReference" "sensors" "LInertialReference$Sensors;").before #[Value.ref hm, Value.int (nI i), Value.int b, Value.int s2, Value.int a, Value.int t2] s = true := zw hts 4 rfl
  have hinX8 : ∀ w ∈ u_ws RX8 TX8 14, w ∈ wsX8_setGyro := fun w h => List.mem_cons_of_mem _ (List.mem_append_left _ (List.mem_append_right _ h))
  refine lv_iload_n hx hb dX8_setGyro_0 rfl (lv_at hl 1 rfl) ?_
  refine z_calli0 (wc := []) (wr := [(hm, .inr (7, [.ref p0, .ref c0, .ref n0, .ref b0, .ref e0, .ref f0, .ref l1, .ref l2, .ref l3, .ref l4, .ref l5, .int (u.2.1 11 2), .int (msk (u.2.2.2 1)), .long (u.1 9 0)])), (n0, .inr (6, [.ref n1, .ref n2, .ref n3, .ref n4, .ref n5, .ref n6, .ref n7, .ref n8, .int (u.2.1 11 0), .int (u.2.1 11 1)])), (n1, zaI k 3 (u.2.1 0)), (n2, zaI k 3 (u.2.1 1)), (n3, zaI k 3 (u.2.1 2)), (n4, zaI k 3 (u.2.1 3))]) (va_runS (As := [.int (nI i)]) (rest := []) ⟨hx, hb, hml, hown, hts⟩ (c_X5_isAxis l D k s.heap.size (nI i)) (va_cwS 1 hts gX8_setGyro_X5_isAxis rfl rfl rfl (by decide +kernel) ⟨Nat.le_of_ble_eq_true rfl, Nat.le_of_ble_eq_true rfl⟩) (z_preS (wc := []) hP hD hK [] rfl rfl zb0 zp0) rfl rfl hl.1 rfl (lv_room (Nat.le_of_ble_eq_true rfl)) dX8_setGyro_1 ⟨Nat.zero_le _, Nat.zero_le _⟩) hP hD hS hA [] [0, 1, 2, 3, 4, 5] rfl rfl rfl (by decide) (fun w H locs hF hP hD hS => ?_)
  subst hF
  have hP : va_P D vwCl [(hm, .inr (7, [.ref p0, .ref c0, .ref n0, .ref b0, .ref e0, .ref f0, .ref l1, .ref l2, .ref l3, .ref l4, .ref l5, .int (u.2.1 11 2), .int (msk (u.2.2.2 1)), .long (u.1 9 0)])), (n0, .inr (6, [.ref n1, .ref n2, .ref n3, .ref n4, .ref n5, .ref n6, .ref n7, .ref n8, .int (u.2.1 11 0), .int (u.2.1 11 1)])), (n1, zaI k 3 (u.2.1 0)), (n2, zaI k 3 (u.2.1 1)), (n3, zaI k 3 (u.2.1 2)), (n4, zaI k 3 (u.2.1 3))] H := hP
  have hD : va_D A [(hm, .inr (7, [.ref p0, .ref c0, .ref n0, .ref b0, .ref e0, .ref f0, .ref l1, .ref l2, .ref l3, .ref l4, .ref l5, .int (u.2.1 11 2), .int (msk (u.2.2.2 1)), .long (u.1 9 0)])), (n0, .inr (6, [.ref n1, .ref n2, .ref n3, .ref n4, .ref n5, .ref n6, .ref n7, .ref n8, .int (u.2.1 11 0), .int (u.2.1 11 1)])), (n1, zaI k 3 (u.2.1 0)), (n2, zaI k 3 (u.2.1 1)), (n3, zaI k 3 (u.2.1 2)), (n4, zaI k 3 (u.2.1 3))] := hD
  refine lv_if_eq (tgt := 53) hx hb dX8_setGyro_4 (by decide) (fun c_1 => ?_) (fun c_1 => ?_)
  · skip
    have c_1 := zb_e c_1
    first | exact absurd (c_1.symm.trans h0) (by decide) | exact absurd (c_1.symm.trans h1) (by decide) | exact absurd (c_1.symm.trans h2) (by decide) | exact absurd (c_1.symm.trans h3) (by decide) | exact absurd (c_1.symm.trans h4) (by decide)
  · skip
    have c_1 := zb_n c_1
    refine lv_iload_n hx hb dX8_setGyro_7 rfl (lv_at hl 2 rfl) ?_
    refine lv_i2l (v := b.toInt64) hx hb dX8_setGyro_8 rfl ?_
    refine lv_ldc2 hx hb hown hl73 dX8_setGyro_9 ?_
    refine z_calli0 (wc := []) (wr := [(hm, .inr (7, [.ref p0, .ref c0, .ref n0, .ref b0, .ref e0, .ref f0, .ref l1, .ref l2, .ref l3, .ref l4, .ref l5, .int (u.2.1 11 2), .int (msk (u.2.2.2 1)), .long (u.1 9 0)])), (n0, .inr (6, [.ref n1, .ref n2, .ref n3, .ref n4, .ref n5, .ref n6, .ref n7, .ref n8, .int (u.2.1 11 0), .int (u.2.1 11 1)])), (n1, zaI k 3 (u.2.1 0)), (n2, zaI k 3 (u.2.1 1)), (n3, zaI k 3 (u.2.1 2)), (n4, zaI k 3 (u.2.1 3))]) (va_runS (As := [.long b.toInt64, .long 100000]) (rest := []) ⟨hx, hb, hml, hown, hts⟩ (c_X5_isWithin l D k H.size b.toInt64 100000) (va_cwS 2 hts gX8_setGyro_X5_isWithin rfl rfl rfl (by decide +kernel) ⟨Nat.le_of_ble_eq_true rfl, Nat.le_of_ble_eq_true rfl⟩) (z_preS (wc := []) hP hD hK [] rfl rfl zb0 zp0) rfl rfl hl.1 rfl (lv_room (Nat.le_of_ble_eq_true rfl)) dX8_setGyro_12 ⟨Nat.zero_le _, Nat.zero_le _⟩) hP hD hS hA [] [0, 1, 2, 3, 4, 5] rfl rfl rfl (by decide) (fun w H locs hF hP hD hS => ?_)
    subst hF
    have hP : va_P D vwCl [(hm, .inr (7, [.ref p0, .ref c0, .ref n0, .ref b0, .ref e0, .ref f0, .ref l1, .ref l2, .ref l3, .ref l4, .ref l5, .int (u.2.1 11 2), .int (msk (u.2.2.2 1)), .long (u.1 9 0)])), (n0, .inr (6, [.ref n1, .ref n2, .ref n3, .ref n4, .ref n5, .ref n6, .ref n7, .ref n8, .int (u.2.1 11 0), .int (u.2.1 11 1)])), (n1, zaI k 3 (u.2.1 0)), (n2, zaI k 3 (u.2.1 1)), (n3, zaI k 3 (u.2.1 2)), (n4, zaI k 3 (u.2.1 3))] H := hP
    have hD : va_D A [(hm, .inr (7, [.ref p0, .ref c0, .ref n0, .ref b0, .ref e0, .ref f0, .ref l1, .ref l2, .ref l3, .ref l4, .ref l5, .int (u.2.1 11 2), .int (msk (u.2.2.2 1)), .long (u.1 9 0)])), (n0, .inr (6, [.ref n1, .ref n2, .ref n3, .ref n4, .ref n5, .ref n6, .ref n7, .ref n8, .int (u.2.1 11 0), .int (u.2.1 11 1)])), (n1, zaI k 3 (u.2.1 0)), (n2, zaI k 3 (u.2.1 1)), (n3, zaI k 3 (u.2.1 2)), (n4, zaI k 3 (u.2.1 3))] := hD
    refine W.eq (g2 := F0 m 15 ls (.int (zb (zin b (-100000) 100000)) :: [])) (by rw [zLi b (-100000) 100000 (A := (-100000)) (B := 100000) (by decide) (by decide)]) ?_
    refine lv_if_eq (tgt := 53) hx hb dX8_setGyro_15 (by decide) (fun c_2 => ?_) (fun c_2 => ?_)
    · skip
      have c_2 := zb_e c_2
      first | exact absurd (c_2.symm.trans h0) (by decide) | exact absurd (c_2.symm.trans h1) (by decide) | exact absurd (c_2.symm.trans h2) (by decide) | exact absurd (c_2.symm.trans h3) (by decide) | exact absurd (c_2.symm.trans h4) (by decide)
    · skip
      have c_2 := zb_n c_2
      refine lv_iload_n hx hb dX8_setGyro_18 rfl (lv_at hl 3 rfl) ?_
      refine lv_i2l (v := s2.toInt64) hx hb dX8_setGyro_19 rfl ?_
      refine lv_ldc2 hx hb hown hl79 dX8_setGyro_20 ?_
      refine z_calli0 (wc := []) (wr := [(hm, .inr (7, [.ref p0, .ref c0, .ref n0, .ref b0, .ref e0, .ref f0, .ref l1, .ref l2, .ref l3, .ref l4, .ref l5, .int (u.2.1 11 2), .int (msk (u.2.2.2 1)), .long (u.1 9 0)])), (n0, .inr (6, [.ref n1, .ref n2, .ref n3, .ref n4, .ref n5, .ref n6, .ref n7, .ref n8, .int (u.2.1 11 0), .int (u.2.1 11 1)])), (n1, zaI k 3 (u.2.1 0)), (n2, zaI k 3 (u.2.1 1)), (n3, zaI k 3 (u.2.1 2)), (n4, zaI k 3 (u.2.1 3))]) (va_runS (As := [.long s2.toInt64, .long 10000]) (rest := []) ⟨hx, hb, hml, hown, hts⟩ (c_X5_isWithin l D k H.size s2.toInt64 10000) (va_cwS 2 hts gX8_setGyro_X5_isWithin rfl rfl rfl (by decide +kernel) ⟨Nat.le_of_ble_eq_true rfl, Nat.le_of_ble_eq_true rfl⟩) (z_preS (wc := []) hP hD hK [] rfl rfl zb0 zp0) rfl rfl hl.1 rfl (lv_room (Nat.le_of_ble_eq_true rfl)) dX8_setGyro_23 ⟨Nat.zero_le _, Nat.zero_le _⟩) hP hD hS hA [] [0, 1, 2, 3, 4, 5] rfl rfl rfl (by decide) (fun w H locs hF hP hD hS => ?_)
      subst hF
      have hP : va_P D vwCl [(hm, .inr (7, [.ref p0, .ref c0, .ref n0, .ref b0, .ref e0, .ref f0, .ref l1, .ref l2, .ref l3, .ref l4, .ref l5, .int (u.2.1 11 2), .int (msk (u.2.2.2 1)), .long (u.1 9 0)])), (n0, .inr (6, [.ref n1, .ref n2, .ref n3, .ref n4, .ref n5, .ref n6, .ref n7, .ref n8, .int (u.2.1 11 0), .int (u.2.1 11 1)])), (n1, zaI k 3 (u.2.1 0)), (n2, zaI k 3 (u.2.1 1)), (n3, zaI k 3 (u.2.1 2)), (n4, zaI k 3 (u.2.1 3))] H := hP
      have hD : va_D A [(hm, .inr (7, [.ref p0, .ref c0, .ref n0, .ref b0, .ref e0, .ref f0, .ref l1, .ref l2, .ref l3, .ref l4, .ref l5, .int (u.2.1 11 2), .int (msk (u.2.2.2 1)), .long (u.1 9 0)])), (n0, .inr (6, [.ref n1, .ref n2, .ref n3, .ref n4, .ref n5, .ref n6, .ref n7, .ref n8, .int (u.2.1 11 0), .int (u.2.1 11 1)])), (n1, zaI k 3 (u.2.1 0)), (n2, zaI k 3 (u.2.1 1)), (n3, zaI k 3 (u.2.1 2)), (n4, zaI k 3 (u.2.1 3))] := hD
      refine W.eq (g2 := F0 m 26 ls (.int (zb (zin s2 (-10000) 10000)) :: [])) (by rw [zLi s2 (-10000) 10000 (A := (-10000)) (B := 10000) (by decide) (by decide)]) ?_
      refine lv_if_eq (tgt := 53) hx hb dX8_setGyro_26 (by decide) (fun c_3 => ?_) (fun c_3 => ?_)
      · skip
        have c_3 := zb_e c_3
        first | exact absurd (c_3.symm.trans h0) (by decide) | exact absurd (c_3.symm.trans h1) (by decide) | exact absurd (c_3.symm.trans h2) (by decide) | exact absurd (c_3.symm.trans h3) (by decide) | exact absurd (c_3.symm.trans h4) (by decide)
      · skip
        have c_3 := zb_n c_3
        refine lv_iload hx hb dX8_setGyro_29 (lv_at hl 4 rfl) ?_
        refine lv_iconst (v := 0) hx hb dX8_setGyro_31 (by decide) ?_
        refine lv_sipush (v := 10000) hx hb dX8_setGyro_32 (by decide) ?_
        refine z_calli0 (wc := []) (wr := [(hm, .inr (7, [.ref p0, .ref c0, .ref n0, .ref b0, .ref e0, .ref f0, .ref l1, .ref l2, .ref l3, .ref l4, .ref l5, .int (u.2.1 11 2), .int (msk (u.2.2.2 1)), .long (u.1 9 0)])), (n0, .inr (6, [.ref n1, .ref n2, .ref n3, .ref n4, .ref n5, .ref n6, .ref n7, .ref n8, .int (u.2.1 11 0), .int (u.2.1 11 1)])), (n1, zaI k 3 (u.2.1 0)), (n2, zaI k 3 (u.2.1 1)), (n3, zaI k 3 (u.2.1 2)), (n4, zaI k 3 (u.2.1 3))]) (va_runS (As := [.int a, .int 0, .int 10000]) (rest := []) ⟨hx, hb, hml, hown, hts⟩ (c_X5_isBetween l D k H.size a 0 10000) (va_cwS 3 hts gX8_setGyro_X5_isBetween rfl rfl rfl (by decide +kernel) ⟨Nat.le_of_ble_eq_true rfl, Nat.le_of_ble_eq_true rfl⟩) (z_preS (wc := []) hP hD hK [] rfl rfl zb0 zp0) rfl rfl hl.1 rfl (lv_room (Nat.le_of_ble_eq_true rfl)) dX8_setGyro_35 ⟨Nat.zero_le _, Nat.zero_le _⟩) hP hD hS hA [] [0, 1, 2, 3, 4, 5] rfl rfl rfl (by decide) (fun w H locs hF hP hD hS => ?_)
        subst hF
        have hP : va_P D vwCl [(hm, .inr (7, [.ref p0, .ref c0, .ref n0, .ref b0, .ref e0, .ref f0, .ref l1, .ref l2, .ref l3, .ref l4, .ref l5, .int (u.2.1 11 2), .int (msk (u.2.2.2 1)), .long (u.1 9 0)])), (n0, .inr (6, [.ref n1, .ref n2, .ref n3, .ref n4, .ref n5, .ref n6, .ref n7, .ref n8, .int (u.2.1 11 0), .int (u.2.1 11 1)])), (n1, zaI k 3 (u.2.1 0)), (n2, zaI k 3 (u.2.1 1)), (n3, zaI k 3 (u.2.1 2)), (n4, zaI k 3 (u.2.1 3))] H := hP
        have hD : va_D A [(hm, .inr (7, [.ref p0, .ref c0, .ref n0, .ref b0, .ref e0, .ref f0, .ref l1, .ref l2, .ref l3, .ref l4, .ref l5, .int (u.2.1 11 2), .int (msk (u.2.2.2 1)), .long (u.1 9 0)])), (n0, .inr (6, [.ref n1, .ref n2, .ref n3, .ref n4, .ref n5, .ref n6, .ref n7, .ref n8, .int (u.2.1 11 0), .int (u.2.1 11 1)])), (n1, zaI k 3 (u.2.1 0)), (n2, zaI k 3 (u.2.1 1)), (n3, zaI k 3 (u.2.1 2)), (n4, zaI k 3 (u.2.1 3))] := hD
        refine W.eq (g2 := F0 m 38 ls (.int (zb (zin a 0 10000)) :: [])) (by rw [zIi a 0 10000 (A := 0) (B := 10000) (by decide) (by decide)]) ?_
        refine lv_if_eq (tgt := 53) hx hb dX8_setGyro_38 (by decide) (fun c_4 => ?_) (fun c_4 => ?_)
        · skip
          have c_4 := zb_e c_4
          first | exact absurd (c_4.symm.trans h0) (by decide) | exact absurd (c_4.symm.trans h1) (by decide) | exact absurd (c_4.symm.trans h2) (by decide) | exact absurd (c_4.symm.trans h3) (by decide) | exact absurd (c_4.symm.trans h4) (by decide)
        · skip
          have c_4 := zb_n c_4
          refine lv_iload hx hb dX8_setGyro_41 (lv_at hl 5 rfl) ?_
          refine lv_i2l (v := t2.toInt64) hx hb dX8_setGyro_43 rfl ?_
          refine lv_ldc2 hx hb hown hl85 dX8_setGyro_44 ?_
          refine z_calli0 (wc := []) (wr := [(hm, .inr (7, [.ref p0, .ref c0, .ref n0, .ref b0, .ref e0, .ref f0, .ref l1, .ref l2, .ref l3, .ref l4, .ref l5, .int (u.2.1 11 2), .int (msk (u.2.2.2 1)), .long (u.1 9 0)])), (n0, .inr (6, [.ref n1, .ref n2, .ref n3, .ref n4, .ref n5, .ref n6, .ref n7, .ref n8, .int (u.2.1 11 0), .int (u.2.1 11 1)])), (n1, zaI k 3 (u.2.1 0)), (n2, zaI k 3 (u.2.1 1)), (n3, zaI k 3 (u.2.1 2)), (n4, zaI k 3 (u.2.1 3))]) (va_runS (As := [.long t2.toInt64, .long 1000]) (rest := []) ⟨hx, hb, hml, hown, hts⟩ (c_X5_isWithin l D k H.size t2.toInt64 1000) (va_cwS 2 hts gX8_setGyro_X5_isWithin rfl rfl rfl (by decide +kernel) ⟨Nat.le_of_ble_eq_true rfl, Nat.le_of_ble_eq_true rfl⟩) (z_preS (wc := []) hP hD hK [] rfl rfl zb0 zp0) rfl rfl hl.1 rfl (lv_room (Nat.le_of_ble_eq_true rfl)) dX8_setGyro_47 ⟨Nat.zero_le _, Nat.zero_le _⟩) hP hD hS hA [] [0, 1, 2, 3, 4, 5] rfl rfl rfl (by decide) (fun w H locs hF hP hD hS => ?_)
          subst hF
          have hP : va_P D vwCl [(hm, .inr (7, [.ref p0, .ref c0, .ref n0, .ref b0, .ref e0, .ref f0, .ref l1, .ref l2, .ref l3, .ref l4, .ref l5, .int (u.2.1 11 2), .int (msk (u.2.2.2 1)), .long (u.1 9 0)])), (n0, .inr (6, [.ref n1, .ref n2, .ref n3, .ref n4, .ref n5, .ref n6, .ref n7, .ref n8, .int (u.2.1 11 0), .int (u.2.1 11 1)])), (n1, zaI k 3 (u.2.1 0)), (n2, zaI k 3 (u.2.1 1)), (n3, zaI k 3 (u.2.1 2)), (n4, zaI k 3 (u.2.1 3))] H := hP
          have hD : va_D A [(hm, .inr (7, [.ref p0, .ref c0, .ref n0, .ref b0, .ref e0, .ref f0, .ref l1, .ref l2, .ref l3, .ref l4, .ref l5, .int (u.2.1 11 2), .int (msk (u.2.2.2 1)), .long (u.1 9 0)])), (n0, .inr (6, [.ref n1, .ref n2, .ref n3, .ref n4, .ref n5, .ref n6, .ref n7, .ref n8, .int (u.2.1 11 0), .int (u.2.1 11 1)])), (n1, zaI k 3 (u.2.1 0)), (n2, zaI k 3 (u.2.1 1)), (n3, zaI k 3 (u.2.1 2)), (n4, zaI k 3 (u.2.1 3))] := hD
          refine W.eq (g2 := F0 m 50 ls (.int (zb (zin t2 (-1000) 1000)) :: [])) (by rw [zLi t2 (-1000) 1000 (A := (-1000)) (B := 1000) (by decide) (by decide)]) ?_
          refine lv_if_ne (tgt := 56) hx hb dX8_setGyro_50 (by decide) (fun c_5 => ?_) (fun c_5 => ?_)
          · skip
            have c_5 := zb_n c_5
            refine lv_aload_n hx hb dX8_setGyro_56 rfl (lv_at hl 0 rfl) ?_
            refine va_get (D := D) (ci := 7) (v := .ref n0) (C := RX8) (T := TX8) (N := 14) hx hb hts hinX8 hown hK hP 0 rfl rfl 2 (Nat.le_of_ble_eq_true rfl) hl26 (fun _ h9 => h9) rfl dX8_setGyro_57 ?_
            refine lv_iload_n hx hb dX8_setGyro_60 rfl (lv_at hl 1 rfl) ?_
            refine lv_iload_n hx hb dX8_setGyro_61 rfl (lv_at hl 2 rfl) ?_
            refine lv_iload_n hx hb dX8_setGyro_62 rfl (lv_at hl 3 rfl) ?_
            refine lv_iload hx hb dX8_setGyro_63 (lv_at hl 4 rfl) ?_
            refine lv_iload hx hb dX8_setGyro_65 (lv_at hl 5 rfl) ?_
            refine z_callv0 (wc := [(n0, .inr (6, [.ref n1, .ref n2, .ref n3, .ref n4, .ref n5, .ref n6, .ref n7, .ref n8, .int (u.2.1 11 0), .int (u.2.1 11 1)])), (n1, zaI k 3 (u.2.1 0)), (n2, zaI k 3 (u.2.1 1)), (n3, zaI k 3 (u.2.1 2)), (n4, zaI k 3 (u.2.1 3))]) (wr := [(hm, .inr (7, [.ref p0, .ref c0, .ref n0, .ref b0, .ref e0, .ref f0, .ref l1, .ref l2, .ref l3, .ref l4, .ref l5, .int (u.2.1 11 2), .int (msk (u.2.2.2 1)), .long (u.1 9 0)]))]) (va_runV (As := [.int (nI i), .int b, .int s2, .int a, .int t2]) (rest := []) ⟨hx, hb, hml, hown, hts⟩ (c_X7_setGyroErrors l D k H.size n0 n1 n2 n3 n4 n5 n6 n7 n8 (u.2.1 0) (u.2.1 1) (u.2.1 2) (u.2.1 3) (u.2.1 11 0) (u.2.1 11 1) i b s2 a t2 hi) (cwV 5 hts gX8_setGyro_X7_setGyroErrors rfl rfl rfl (by decide +kernel) ⟨Nat.le_of_ble_eq_true rfl, Nat.le_of_ble_eq_true rfl⟩) (z_preV (wc := [(n0, .inr (6, [.ref n1, .ref n2, .ref n3, .ref n4, .ref n5, .ref n6, .ref n7, .ref n8, .int (u.2.1 11 0), .int (u.2.1 11 1)])), (n1, zaI k 3 (u.2.1 0)), (n2, zaI k 3 (u.2.1 1)), (n3, zaI k 3 (u.2.1 2)), (n4, zaI k 3 (u.2.1 3))]) 1 6 hP hD hK [1, 2, 3, 4, 5] rfl rfl rfl rfl zb0 zp0) rfl rfl hl.1 rfl (lv_room (Nat.le_of_ble_eq_true rfl)) dX8_setGyro_67 ⟨Nat.zero_le _, Nat.zero_le _⟩) hP hD hS hA [1, 2, 3, 4, 5] [0] rfl rfl rfl (by decide) (fun w H locs hF hP hD hS => ?_)
            subst hF
            have hP : va_P D vwCl [(hm, .inr (7, [.ref p0, .ref c0, .ref n0, .ref b0, .ref e0, .ref f0, .ref l1, .ref l2, .ref l3, .ref l4, .ref l5, .int (u.2.1 11 2), .int (msk (u.2.2.2 1)), .long (u.1 9 0)])), (n0, .inr (6, [.ref n1, .ref n2, .ref n3, .ref n4, .ref n5, .ref n6, .ref n7, .ref n8, .int (u.2.1 11 0), .int (u.2.1 11 1)])), (n1, zaI k 3 (upd (u.2.1 0) i b)), (n2, zaI k 3 (upd (u.2.1 1) i s2)), (n3, zaI k 3 (upd (u.2.1 2) i a)), (n4, zaI k 3 (upd (u.2.1 3) i t2))] H := hP
            have hD : va_D A [(hm, .inr (7, [.ref p0, .ref c0, .ref n0, .ref b0, .ref e0, .ref f0, .ref l1, .ref l2, .ref l3, .ref l4, .ref l5, .int (u.2.1 11 2), .int (msk (u.2.2.2 1)), .long (u.1 9 0)])), (n0, .inr (6, [.ref n1, .ref n2, .ref n3, .ref n4, .ref n5, .ref n6, .ref n7, .ref n8, .int (u.2.1 11 0), .int (u.2.1 11 1)])), (n1, zaI k 3 (upd (u.2.1 0) i b)), (n2, zaI k 3 (upd (u.2.1 1) i s2)), (n3, zaI k 3 (upd (u.2.1 2) i a)), (n4, zaI k 3 (upd (u.2.1 3) i t2))] := hD
            refine lv_iconst (v := 0) hx hb dX8_setGyro_70 (by decide) ?_
            have hP9 := hP.sub (ws' := [(hm, .inr (7, [.ref p0, .ref c0, .ref n0, .ref b0, .ref e0, .ref f0, .ref l1, .ref l2, .ref l3, .ref l4, .ref l5, .int (u.2.1 11 2), .int (msk (u.2.2.2 1)), .long (u.1 9 0)])), (n0, .inr (6, [.ref n1, .ref n2, .ref n3, .ref n4, .ref n5, .ref n6, .ref n7, .ref n8, .int (u.2.1 11 0), .int (u.2.1 11 1)])), (n1, zaI k 3 (upd (u.2.1 0) i b)), (n2, zaI k 3 (upd (u.2.1 1) i s2)), (n3, zaI k 3 (upd (u.2.1 2) i a)), (n4, zaI k 3 (upd (u.2.1 3) i t2))]) [0, 1, 2, 3, 4, 5] rfl
            have hD9 := hD.sub (ws' := [(hm, .inr (7, [.ref p0, .ref c0, .ref n0, .ref b0, .ref e0, .ref f0, .ref l1, .ref l2, .ref l3, .ref l4, .ref l5, .int (u.2.1 11 2), .int (msk (u.2.2.2 1)), .long (u.1 9 0)])), (n0, .inr (6, [.ref n1, .ref n2, .ref n3, .ref n4, .ref n5, .ref n6, .ref n7, .ref n8, .int (u.2.1 11 0), .int (u.2.1 11 1)])), (n1, zaI k 3 (upd (u.2.1 0) i b)), (n2, zaI k 3 (upd (u.2.1 1) i s2)), (n3, zaI k 3 (upd (u.2.1 2) i a)), (n4, zaI k 3 (upd (u.2.1 3) i t2))]) [0, 1, 2, 3, 4, 5] (by decide) rfl
            exact W.iret (v := 0) hx hb hr (fun t9 ht9 hW9 => ⟨⟨0, [(hm, .inr (7, [.ref p0, .ref c0, .ref n0, .ref b0, .ref e0, .ref f0, .ref l1, .ref l2, .ref l3, .ref l4, .ref l5, .int (u.2.1 11 2), .int (msk (u.2.2.2 1)), .long (u.1 9 0)])), (n0, .inr (6, [.ref n1, .ref n2, .ref n3, .ref n4, .ref n5, .ref n6, .ref n7, .ref n8, .int (u.2.1 11 0), .int (u.2.1 11 1)])), (n1, zaI k 3 (upd (u.2.1 0) i b)), (n2, zaI k 3 (upd (u.2.1 1) i s2)), (n3, zaI k 3 (upd (u.2.1 2) i a)), (n4, zaI k 3 (upd (u.2.1 3) i t2))], rfl, ⟨rfl, rfl⟩, by rw [ht9]; exact hP9, hD9⟩, hS.F ht9⟩) hS.2.2 dX8_setGyro_71
          · skip
            have c_5 := zb_e c_5
            first | exact absurd (c_5.symm.trans h0) (by decide) | exact absurd (c_5.symm.trans h1) (by decide) | exact absurd (c_5.symm.trans h2) (by decide) | exact absurd (c_5.symm.trans h3) (by decide) | exact absurd (c_5.symm.trans h4) (by decide)
set_option maxHeartbeats 4000000 in
set_option maxRecDepth 100000 in
theorem c_X8_setGyro_no (l : Launch) (D : va_G) (k : Nat → ClassId) (sz : Nat) (hm p0 c0 n0 b0 e0 f0 l1 l2 l3 l4 l5 : Nat) (u : zS) (x b s2 a t2 : Int32) (hno : (zin x 0 2 && (zin b (-100000) 100000 && (zin s2 (-10000) 10000 && (zin a 0 10000 && zin t2 (-1000) 1000)))) = false) : Met l yX8_setGyro wsX8_setGyro ({ frames := 1, cells := 0, slots := 0, locals := 23 } : Room) (va_Pc [.ref hm, .int x, .int b, .int s2, .int a, .int t2] (zPre D k [(hm, .inr (7, [.ref p0, .ref c0, .ref n0, .ref b0, .ref e0, .ref f0, .ref l1, .ref l2, .ref l3, .ref l4, .ref l5, .int (u.2.1 11 2), .int (msk (u.2.2.2 1)), .long (u.1 9 0)]))] sz zX0)) (zQi D [(hm, .inr (7, [.ref p0, .ref c0, .ref n0, .ref b0, .ref e0, .ref f0, .ref l1, .ref l2, .ref l3, .ref l4, .ref l5, .int (u.2.1 11 2), .int (msk (u.2.2.2 1)), .long (u.1 9 0)]))] sz (-2) (fun w : va_W => w = [(hm, .inr (7, [.ref p0, .ref c0, .ref n0, .ref b0, .ref e0, .ref f0, .ref l1, .ref l2, .ref l3, .ref l4, .ref l5, .int (u.2.1 11 2), .int (msk (u.2.2.2 1)), .long (u.1 9 0)]))])) 0 0 (va_A [(hm, .inr (7, [.ref p0, .ref c0, .ref n0, .ref b0, .ref e0, .ref f0, .ref l1, .ref l2, .ref l3, .ref l4, .ref l5, .int (u.2.1 11 2), .int (msk (u.2.2.2 1)), .long (u.1 9 0)]))] sz) := by
  refine Met.ofW (cc := cX8_setGyro) (maxL := 6) (ret := (some .int)) (by decide) rfl ?_
  intro p e s m args below meth c s₁ B hml hv
  obtain ⟨rfl, hsz, hP, hK, hD0, hE⟩ := hv
  have hx := B.exec
  have hb := B.bytes
  have hr := B.returns
  have hts := atoms_spec (ws := wsX8_setGyro) B.pre
  have hown : s.vm.findClass RX8 = some m.cls := findClass_of_methodNamed B.named
  have hlocks := B.notSynchronized
  subst hsz
  have hD := hD0.self (sz := s.heap.size)
  delta zQi zB
  generalize hAe : va_A [(hm, .inr (7, [.ref p0, .ref c0, .ref n0, .ref b0, .ref e0, .ref f0, .ref l1, .ref l2, .ref l3, .ref l4, .ref l5, .int (u.2.1 11 2), .int (msk (u.2.2.2 1)), .long (u.1 9 0)]))] s.heap.size = A at hD hE ⊢
  have hA : ∀ q : Nat, s.heap.size ≤ q → A q := fun q h => by rw [← hAe]; exact Or.inr h
  have hS : va_S A s.heap s.heap [] := va_S.rf
  have hl := lv_entry [.ref hm, .int x, .int b, .int s2, .int a, .int t2] (n := 6) (Nat.le_of_ble_eq_true rfl)
  rw [lg_entry_eq]
  generalize (lg_sl [.ref hm, .int x, .int b, .int s2, .int a, .int t2] ++ List.replicate (6 - (lg_sl [.ref hm, .int x, .int b, .int s2, .int a, .int t2]).length) Slot.unset).toArray = ls at hl ⊢
  have hl : lv_has ls 6 [(0, .ref hm), (1, .int x), (2, .int b), (3, .int s2), (4, .int a), (5, .int t2)] := hl
  have hl73 : (Cond.constantLong RX8 73 (100000)).before #[Value.ref hm, Value.int x, Value.int b, Value.int s2, Value.int a, Value.int t2] s = true := zw hts 1 rfl
  have hl79 : (Cond.constantLong RX8 79 (10000)).before #[Value.ref hm, Value.int x, Value.int b, Value.int s2, Value.int a, Value.int t2] s = true := zw hts 2 rfl
  have hl85 : (Cond.constantLong RX8 85 (1000)).before #[Value.ref hm, Value.int x, Value.int b, Value.int s2, Value.int a, Value.int t2] s = true := zw hts 3 rfl
  refine lv_iload_n hx hb dX8_setGyro_0 rfl (lv_at hl 1 rfl) ?_
  refine z_calli0 (wc := []) (wr := [(hm, .inr (7, [.ref p0, .ref c0, .ref n0, .ref b0, .ref e0, .ref f0, .ref l1, .ref l2, .ref l3, .ref l4, .ref l5, .int (u.2.1 11 2), .int (msk (u.2.2.2 1)), .long (u.1 9 0)]))]) (va_runS (As := [.int x]) (rest := []) ⟨hx, hb, hml, hown, hts⟩ (c_X5_isAxis l D k s.heap.size x) (va_cwS 1 hts gX8_setGyro_X5_isAxis rfl rfl rfl (by decide +kernel) ⟨Nat.le_of_ble_eq_true rfl, Nat.le_of_ble_eq_true rfl⟩) (z_preS (wc := []) hP hD hK [] rfl rfl zb0 zp0) rfl rfl hl.1 rfl (lv_room (Nat.le_of_ble_eq_true rfl)) dX8_setGyro_1 ⟨Nat.zero_le _, Nat.zero_le _⟩) hP hD hS hA [] [0] rfl rfl rfl (by decide) (fun w H locs hF hP hD hS => ?_)
  subst hF
  have hP : va_P D vwCl [(hm, .inr (7, [.ref p0, .ref c0, .ref n0, .ref b0, .ref e0, .ref f0, .ref l1, .ref l2, .ref l3, .ref l4, .ref l5, .int (u.2.1 11 2), .int (msk (u.2.2.2 1)), .long (u.1 9 0)]))] H := hP
  have hD : va_D A [(hm, .inr (7, [.ref p0, .ref c0, .ref n0, .ref b0, .ref e0, .ref f0, .ref l1, .ref l2, .ref l3, .ref l4, .ref l5, .int (u.2.1 11 2), .int (msk (u.2.2.2 1)), .long (u.1 9 0)]))] := hD
  refine lv_if_eq (tgt := 53) hx hb dX8_setGyro_4 (by decide) (fun c_1 => ?_) (fun c_1 => ?_)
  · skip
    have c_1 := zb_e c_1
    refine lv_bipush (v := (-2)) hx hb dX8_setGyro_53 (by decide) ?_
    have hP9 := hP.sub (ws' := [(hm, .inr (7, [.ref p0, .ref c0, .ref n0, .ref b0, .ref e0, .ref f0, .ref l1, .ref l2, .ref l3, .ref l4, .ref l5, .int (u.2.1 11 2), .int (msk (u.2.2.2 1)), .long (u.1 9 0)]))]) [0] rfl
    have hD9 := hD.sub (ws' := [(hm, .inr (7, [.ref p0, .ref c0, .ref n0, .ref b0, .ref e0, .ref f0, .ref l1, .ref l2, .ref l3, .ref l4, .ref l5, .int (u.2.1 11 2), .int (msk (u.2.2.2 1)), .long (u.1 9 0)]))]) [0] (by decide) rfl
    exact W.iret (v := (-2)) hx hb hr (fun t9 ht9 hW9 => ⟨⟨(-2), [(hm, .inr (7, [.ref p0, .ref c0, .ref n0, .ref b0, .ref e0, .ref f0, .ref l1, .ref l2, .ref l3, .ref l4, .ref l5, .int (u.2.1 11 2), .int (msk (u.2.2.2 1)), .long (u.1 9 0)]))], rfl, ⟨rfl, rfl⟩, by rw [ht9]; exact hP9, hD9⟩, hS.F ht9⟩) hS.2.2 dX8_setGyro_55
  · skip
    have c_1 := zb_n c_1
    refine lv_iload_n hx hb dX8_setGyro_7 rfl (lv_at hl 2 rfl) ?_
    refine lv_i2l (v := b.toInt64) hx hb dX8_setGyro_8 rfl ?_
    refine lv_ldc2 hx hb hown hl73 dX8_setGyro_9 ?_
    refine z_calli0 (wc := []) (wr := [(hm, .inr (7, [.ref p0, .ref c0, .ref n0, .ref b0, .ref e0, .ref f0, .ref l1, .ref l2, .ref l3, .ref l4, .ref l5, .int (u.2.1 11 2), .int (msk (u.2.2.2 1)), .long (u.1 9 0)]))]) (va_runS (As := [.long b.toInt64, .long 100000]) (rest := []) ⟨hx, hb, hml, hown, hts⟩ (c_X5_isWithin l D k H.size b.toInt64 100000) (va_cwS 2 hts gX8_setGyro_X5_isWithin rfl rfl rfl (by decide +kernel) ⟨Nat.le_of_ble_eq_true rfl, Nat.le_of_ble_eq_true rfl⟩) (z_preS (wc := []) hP hD hK [] rfl rfl zb0 zp0) rfl rfl hl.1 rfl (lv_room (Nat.le_of_ble_eq_true rfl)) dX8_setGyro_12 ⟨Nat.zero_le _, Nat.zero_le _⟩) hP hD hS hA [] [0] rfl rfl rfl (by decide) (fun w H locs hF hP hD hS => ?_)
    subst hF
    have hP : va_P D vwCl [(hm, .inr (7, [.ref p0, .ref c0, .ref n0, .ref b0, .ref e0, .ref f0, .ref l1, .ref l2, .ref l3, .ref l4, .ref l5, .int (u.2.1 11 2), .int (msk (u.2.2.2 1)), .long (u.1 9 0)]))] H := hP
    have hD : va_D A [(hm, .inr (7, [.ref p0, .ref c0, .ref n0, .ref b0, .ref e0, .ref f0, .ref l1, .ref l2, .ref l3, .ref l4, .ref l5, .int (u.2.1 11 2), .int (msk (u.2.2.2 1)), .long (u.1 9 0)]))] := hD
    refine W.eq (g2 := F0 m 15 ls (.int (zb (zin b (-100000) 100000)) :: [])) (by rw [zLi b (-100000) 100000 (A := (-100000)) (B := 100000) (by decide) (by decide)]) ?_
    refine lv_if_eq (tgt := 53) hx hb dX8_setGyro_15 (by decide) (fun c_2 => ?_) (fun c_2 => ?_)
    · skip
      have c_2 := zb_e c_2
      refine lv_bipush (v := (-2)) hx hb dX8_setGyro_53 (by decide) ?_
      have hP9 := hP.sub (ws' := [(hm, .inr (7, [.ref p0, .ref c0, .ref n0, .ref b0, .ref e0, .ref f0, .ref l1, .ref l2, .ref l3, .ref l4, .ref l5, .int (u.2.1 11 2), .int (msk (u.2.2.2 1)), .long (u.1 9 0)]))]) [0] rfl
      have hD9 := hD.sub (ws' := [(hm, .inr (7, [.ref p0, .ref c0, .ref n0, .ref b0, .ref e0, .ref f0, .ref l1, .ref l2, .ref l3, .ref l4, .ref l5, .int (u.2.1 11 2), .int (msk (u.2.2.2 1)), .long (u.1 9 0)]))]) [0] (by decide) rfl
      exact W.iret (v := (-2)) hx hb hr (fun t9 ht9 hW9 => ⟨⟨(-2), [(hm, .inr (7, [.ref p0, .ref c0, .ref n0, .ref b0, .ref e0, .ref f0, .ref l1, .ref l2, .ref l3, .ref l4, .ref l5, .int (u.2.1 11 2), .int (msk (u.2.2.2 1)), .long (u.1 9 0)]))], rfl, ⟨rfl, rfl⟩, by rw [ht9]; exact hP9, hD9⟩, hS.F ht9⟩) hS.2.2 dX8_setGyro_55
    · skip
      have c_2 := zb_n c_2
      refine lv_iload_n hx hb dX8_setGyro_18 rfl (lv_at hl 3 rfl) ?_
      refine lv_i2l (v := s2.toInt64) hx hb dX8_setGyro_19 rfl ?_
      refine lv_ldc2 hx hb hown hl79 dX8_setGyro_20 ?_
      refine z_calli0 (wc := []) (wr := [(hm, .inr (7, [.ref p0, .ref c0, .ref n0, .ref b0, .ref e0, .ref f0, .ref l1, .ref l2, .ref l3, .ref l4, .ref l5, .int (u.2.1 11 2), .int (msk (u.2.2.2 1)), .long (u.1 9 0)]))]) (va_runS (As := [.long s2.toInt64, .long 10000]) (rest := []) ⟨hx, hb, hml, hown, hts⟩ (c_X5_isWithin l D k H.size s2.toInt64 10000) (va_cwS 2 hts gX8_setGyro_X5_isWithin rfl rfl rfl (by decide +kernel) ⟨Nat.le_of_ble_eq_true rfl, Nat.le_of_ble_eq_true rfl⟩) (z_preS (wc := []) hP hD hK [] rfl rfl zb0 zp0) rfl rfl hl.1 rfl (lv_room (Nat.le_of_ble_eq_true rfl)) dX8_setGyro_23 ⟨Nat.zero_le _, Nat.zero_le _⟩) hP hD hS hA [] [0] rfl rfl rfl (by decide) (fun w H locs hF hP hD hS => ?_)
      subst hF
      have hP : va_P D vwCl [(hm, .inr (7, [.ref p0, .ref c0, .ref n0, .ref b0, .ref e0, .ref f0, .ref l1, .ref l2, .ref l3, .ref l4, .ref l5, .int (u.2.1 11 2), .int (msk (u.2.2.2 1)), .long (u.1 9 0)]))] H := hP
      have hD : va_D A [(hm, .inr (7, [.ref p0, .ref c0, .ref n0, .ref b0, .ref e0, .ref f0, .ref l1, .ref l2, .ref l3, .ref l4, .ref l5, .int (u.2.1 11 2), .int (msk (u.2.2.2 1)), .long (u.1 9 0)]))] := hD
      refine W.eq (g2 := F0 m 26 ls (.int (zb (zin s2 (-10000) 10000)) :: [])) (by rw [zLi s2 (-10000) 10000 (A := (-10000)) (B := 10000) (by decide) (by decide)]) ?_
      refine lv_if_eq (tgt := 53) hx hb dX8_setGyro_26 (by decide) (fun c_3 => ?_) (fun c_3 => ?_)
      · skip
        have c_3 := zb_e c_3
        refine lv_bipush (v := (-2)) hx hb dX8_setGyro_53 (by decide) ?_
        have hP9 := hP.sub (ws' := [(hm, .inr (7, [.ref p0, .ref c0, .ref n0, .ref b0, .ref e0, .ref f0, .ref l1, .ref l2, .ref l3, .ref l4, .ref l5, .int (u.2.1 11 2), .int (msk (u.2.2.2 1)), .long (u.1 9 0)]))]) [0] rfl
        have hD9 := hD.sub (ws' := [(hm, .inr (7, [.ref p0, .ref c0, .ref n0, .ref b0, .ref e0, .ref f0, .ref l1, .ref l2, .ref l3, .ref l4, .ref l5, .int (u.2.1 11 2), .int (msk (u.2.2.2 1)), .long (u.1 9 0)]))]) [0] (by decide) rfl
        exact W.iret (v := (-2)) hx hb hr (fun t9 ht9 hW9 => ⟨⟨(-2), [(hm, .inr (7, [.ref p0, .ref c0, .ref n0, .ref b0, .ref e0, .ref f0, .ref l1, .ref l2, .ref l3, .ref l4, .ref l5, .int (u.2.1 11 2), .int (msk (u.2.2.2 1)), .long (u.1 9 0)]))], rfl, ⟨rfl, rfl⟩, by rw [ht9]; exact hP9, hD9⟩, hS.F ht9⟩) hS.2.2 dX8_setGyro_55
      · skip
        have c_3 := zb_n c_3
        refine lv_iload hx hb dX8_setGyro_29 (lv_at hl 4 rfl) ?_
        refine lv_iconst (v := 0) hx hb dX8_setGyro_31 (by decide) ?_
        refine lv_sipush (v := 10000) hx hb dX8_setGyro_32 (by decide) ?_
        refine z_calli0 (wc := []) (wr := [(hm, .inr (7, [.ref p0, .ref c0, .ref n0, .ref b0, .ref e0, .ref f0, .ref l1, .ref l2, .ref l3, .ref l4, .ref l5, .int (u.2.1 11 2), .int (msk (u.2.2.2 1)), .long (u.1 9 0)]))]) (va_runS (As := [.int a, .int 0, .int 10000]) (rest := []) ⟨hx, hb, hml, hown, hts⟩ (c_X5_isBetween l D k H.size a 0 10000) (va_cwS 3 hts gX8_setGyro_X5_isBetween rfl rfl rfl (by decide +kernel) ⟨Nat.le_of_ble_eq_true rfl, Nat.le_of_ble_eq_true rfl⟩) (z_preS (wc := []) hP hD hK [] rfl rfl zb0 zp0) rfl rfl hl.1 rfl (lv_room (Nat.le_of_ble_eq_true rfl)) dX8_setGyro_35 ⟨Nat.zero_le _, Nat.zero_le _⟩) hP hD hS hA [] [0] rfl rfl rfl (by decide) (fun w H locs hF hP hD hS => ?_)
        subst hF
        have hP : va_P D vwCl [(hm, .inr (7, [.ref p0, .ref c0, .ref n0, .ref b0, .ref e0, .ref f0, .ref l1, .ref l2, .ref l3, .ref l4, .ref l5, .int (u.2.1 11 2), .int (msk (u.2.2.2 1)), .long (u.1 9 0)]))] H := hP
        have hD : va_D A [(hm, .inr (7, [.ref p0, .ref c0, .ref n0, .ref b0, .ref e0, .ref f0, .ref l1, .ref l2, .ref l3, .ref l4, .ref l5, .int (u.2.1 11 2), .int (msk (u.2.2.2 1)), .long (u.1 9 0)]))] := hD
        refine W.eq (g2 := F0 m 38 ls (.int (zb (zin a 0 10000)) :: [])) (by rw [zIi a 0 10000 (A := 0) (B := 10000) (by decide) (by decide)]) ?_
        refine lv_if_eq (tgt := 53) hx hb dX8_setGyro_38 (by decide) (fun c_4 => ?_) (fun c_4 => ?_)
        · skip
          have c_4 := zb_e c_4
          refine lv_bipush (v := (-2)) hx hb dX8_setGyro_53 (by decide) ?_
          have hP9 := hP.sub (ws' := [(hm, .inr (7, [.ref p0, .ref c0, .ref n0, .ref b0, .ref e0, .ref f0, .ref l1, .ref l2, .ref l3, .ref l4, .ref l5, .int (u.2.1 11 2), .int (msk (u.2.2.2 1)), .long (u.1 9 0)]))]) [0] rfl
          have hD9 := hD.sub (ws' := [(hm, .inr (7, [.ref p0, .ref c0, .ref n0, .ref b0, .ref e0, .ref f0, .ref l1, .ref l2, .ref l3, .ref l4, .ref l5, .int (u.2.1 11 2), .int (msk (u.2.2.2 1)), .long (u.1 9 0)]))]) [0] (by decide) rfl
          exact W.iret (v := (-2)) hx hb hr (fun t9 ht9 hW9 => ⟨⟨(-2), [(hm, .inr (7, [.ref p0, .ref c0, .ref n0, .ref b0, .ref e0, .ref f0, .ref l1, .ref l2, .ref l3, .ref l4, .ref l5, .int (u.2.1 11 2), .int (msk (u.2.2.2 1)), .long (u.1 9 0)]))], rfl, ⟨rfl, rfl⟩, by rw [ht9]; exact hP9, hD9⟩, hS.F ht9⟩) hS.2.2 dX8_setGyro_55
        · skip
          have c_4 := zb_n c_4
          refine lv_iload hx hb dX8_setGyro_41 (lv_at hl 5 rfl) ?_
          refine lv_i2l (v := t2.toInt64) hx hb dX8_setGyro_43 rfl ?_
          refine lv_ldc2 hx hb hown hl85 dX8_setGyro_44 ?_
          refine z_calli0 (wc := []) (wr := [(hm, .inr (7, [.ref p0, .ref c0, .ref n0, .ref b0, .ref e0, .ref f0, .ref l1, .ref l2, .ref l3, .ref l4, .ref l5, .int (u.2.1 11 2), .int (msk (u.2.2.2 1)), .long (u.1 9 0)]))]) (va_runS (As := [.long t2.toInt64, .long 1000]) (rest := []) ⟨hx, hb, hml, hown, hts⟩ (c_X5_isWithin l D k H.size t2.toInt64 1000) (va_cwS 2 hts gX8_setGyro_X5_isWithin rfl rfl rfl (by decide +kernel) ⟨Nat.le_of_ble_eq_true rfl, Nat.le_of_ble_eq_true rfl⟩) (z_preS (wc := []) hP hD hK [] rfl rfl zb0 zp0) rfl rfl hl.1 rfl (lv_room (Nat.le_of_ble_eq_true rfl)) dX8_setGyro_47 ⟨Nat.zero_le _, Nat.zero_le _⟩) hP hD hS hA [] [0] rfl rfl rfl (by decide) (fun w H locs hF hP hD hS => ?_)
          subst hF
          have hP : va_P D vwCl [(hm, .inr (7, [.ref p0, .ref c0, .ref n0, .ref b0, .ref e0, .ref f0, .ref l1, .ref l2, .ref l3, .ref l4, .ref l5, .int (u.2.1 11 2), .int (msk (u.2.2.2 1)), .long (u.1 9 0)]))] H := hP
          have hD : va_D A [(hm, .inr (7, [.ref p0, .ref c0, .ref n0, .ref b0, .ref e0, .ref f0, .ref l1, .ref l2, .ref l3, .ref l4, .ref l5, .int (u.2.1 11 2), .int (msk (u.2.2.2 1)), .long (u.1 9 0)]))] := hD
          refine W.eq (g2 := F0 m 50 ls (.int (zb (zin t2 (-1000) 1000)) :: [])) (by rw [zLi t2 (-1000) 1000 (A := (-1000)) (B := 1000) (by decide) (by decide)]) ?_
          refine lv_if_ne (tgt := 56) hx hb dX8_setGyro_50 (by decide) (fun c_5 => ?_) (fun c_5 => ?_)
          · skip
            have c_5 := zb_n c_5
            rw [c_1, c_2, c_3, c_4, c_5] at hno; exact absurd hno (by decide)
          · skip
            have c_5 := zb_e c_5
            refine lv_bipush (v := (-2)) hx hb dX8_setGyro_53 (by decide) ?_
            have hP9 := hP.sub (ws' := [(hm, .inr (7, [.ref p0, .ref c0, .ref n0, .ref b0, .ref e0, .ref f0, .ref l1, .ref l2, .ref l3, .ref l4, .ref l5, .int (u.2.1 11 2), .int (msk (u.2.2.2 1)), .long (u.1 9 0)]))]) [0] rfl
            have hD9 := hD.sub (ws' := [(hm, .inr (7, [.ref p0, .ref c0, .ref n0, .ref b0, .ref e0, .ref f0, .ref l1, .ref l2, .ref l3, .ref l4, .ref l5, .int (u.2.1 11 2), .int (msk (u.2.2.2 1)), .long (u.1 9 0)]))]) [0] (by decide) rfl
            exact W.iret (v := (-2)) hx hb hr (fun t9 ht9 hW9 => ⟨⟨(-2), [(hm, .inr (7, [.ref p0, .ref c0, .ref n0, .ref b0, .ref e0, .ref f0, .ref l1, .ref l2, .ref l3, .ref l4, .ref l5, .int (u.2.1 11 2), .int (msk (u.2.2.2 1)), .long (u.1 9 0)]))], rfl, ⟨rfl, rfl⟩, by rw [ht9]; exact hP9, hD9⟩, hS.F ht9⟩) hS.2.2 dX8_setGyro_55
set_option maxHeartbeats 4000000 in
set_option maxRecDepth 100000 in
theorem c_X8_setAccelerometer_ok (l : Launch) (D : va_G) (k : Nat → ClassId) (sz : Nat) (hm p0 c0 n0 n1 n2 n3 n4 n5 n6 n7 n8 b0 e0 f0 l1 l2 l3 l4 l5 : Nat) (u : zS) (i : Nat) (b : Int32) (hi : i < 3) (h0 : zin (nI i) 0 2 = true) (h1 : zin b (-10000000) 10000000 = true) : Met l yX8_setAccelerometer wsX8_setAccelerometer ({ frames := 2, cells := 0, slots := 0, locals := 42 } : Room) (va_Pc [.ref hm, .int (nI i), .int b] (zPre D k [(hm, .inr (7, [.ref p0, .ref c0, .ref n0, .ref b0, .ref e0, .ref f0, .ref l1, .ref l2, .ref l3, .ref l4, .ref l5, .int (u.2.1 11 2), .int (msk (u.2.2.2 1)), .long (u.1 9 0)])), (n0, .inr (6, [.ref n1, .ref n2, .ref n3, .ref n4, .ref n5, .ref n6, .ref n7, .ref n8, .int (u.2.1 11 0), .int (u.2.1 11 1)])), (n5, zaI k 3 (u.2.1 4))] sz zX0)) (zQi D [(hm, .inr (7, [.ref p0, .ref c0, .ref n0, .ref b0, .ref e0, .ref f0, .ref l1, .ref l2, .ref l3, .ref l4, .ref l5, .int (u.2.1 11 2), .int (msk (u.2.2.2 1)), .long (u.1 9 0)])), (n0, .inr (6, [.ref n1, .ref n2, .ref n3, .ref n4, .ref n5, .ref n6, .ref n7, .ref n8, .int (u.2.1 11 0), .int (u.2.1 11 1)])), (n5, zaI k 3 (u.2.1 4))] sz 0 (fun w : va_W => w = [(hm, .inr (7, [.ref p0, .ref c0, .ref n0, .ref b0, .ref e0, .ref f0, .ref l1, .ref l2, .ref l3, .ref l4, .ref l5, .int (u.2.1 11 2), .int (msk (u.2.2.2 1)), .long (u.1 9 0)])), (n0, .inr (6, [.ref n1, .ref n2, .ref n3, .ref n4, .ref n5, .ref n6, .ref n7, .ref n8, .int (u.2.1 11 0), .int (u.2.1 11 1)])), (n5, zaI k 3 (upd (u.2.1 4) i b))])) 0 0 (va_A [(hm, .inr (7, [.ref p0, .ref c0, .ref n0, .ref b0, .ref e0, .ref f0, .ref l1, .ref l2, .ref l3, .ref l4, .ref l5, .int (u.2.1 11 2), .int (msk (u.2.2.2 1)), .long (u.1 9 0)])), (n0, .inr (6, [.ref n1, .ref n2, .ref n3, .ref n4, .ref n5, .ref n6, .ref n7, .ref n8, .int (u.2.1 11 0), .int (u.2.1 11 1)])), (n5, zaI k 3 (u.2.1 4))] sz) := by
  refine Met.ofW (cc := cX8_setAccelerometer) (maxL := 3) (ret := (some .int)) (by decide) rfl ?_
  intro p e s m args below meth c s₁ B hml hv
  obtain ⟨rfl, hsz, hP, hK, hD0, hE⟩ := hv
  have hx := B.exec
  have hb := B.bytes
  have hr := B.returns
  have hts := atoms_spec (ws := wsX8_setAccelerometer) B.pre
  have hown : s.vm.findClass RX8 = some m.cls := findClass_of_methodNamed B.named
  have hlocks := B.notSynchronized
  subst hsz
  have hD := hD0.self (sz := s.heap.size)
  delta zQi zB
  generalize hAe : va_A [(hm, .inr (7, [.ref p0, .ref c0, .ref n0, .ref b0, .ref e0, .ref f0, .ref l1, .ref l2, .ref l3, .ref l4, .ref l5, .int (u.2.1 11 2), .int (msk (u.2.2.2 1)), .long (u.1 9 0)])), (n0, .inr (6, [.ref n1, .ref n2, .ref n3, .ref n4, .ref n5, .ref n6, .ref n7, .ref n8, .int (u.2.1 11 0), .int (u.2.1 11 1)])), (n5, zaI k 3 (u.2.1 4))] s.heap.size = A at hD hE ⊢
  have hA : ∀ q : Nat, s.heap.size ≤ q → A q := fun q h => by rw [← hAe]; exact Or.inr h
  have hS : va_S A s.heap s.heap [] := va_S.rf
  have hl := lv_entry [.ref hm, .int (nI i), .int b] (n := 3) (Nat.le_of_ble_eq_true rfl)
  rw [lg_entry_eq]
  generalize (lg_sl [.ref hm, .int (nI i), .int b] ++ List.replicate (3 - (lg_sl [.ref hm, .int (nI i), .int b]).length) Slot.unset).toArray = ls at hl ⊢
  have hl : lv_has ls 3 [(0, .ref hm), (1, .int (nI i)), (2, .int b)] := hl
  have hl91 : (Cond.constantLong RX8 91 (10000000)).before #[Value.ref hm, Value.int (nI i), Value.int b] s = true := zw hts 1 rfl
  have hl26 : (Cond.fieldLink RX8 26 "InertialReference" "sensors" "LInertialReference$Sensors;").before #[Value.ref hm, Value.int (nI i), Value.int b] s = true := zw hts 2 rfl
  have hinX8 : ∀ w ∈ u_ws RX8 TX8 14, w ∈ wsX8_setAccelerometer := fun w h => List.mem_cons_of_mem _ (List.mem_append_left _ (List.mem_append_right _ h))
  refine lv_iload_n hx hb dX8_setAccelerometer_0 rfl (lv_at hl 1 rfl) ?_
  refine z_calli0 (wc := []) (wr := [(hm, .inr (7, [.ref p0, .ref c0, .ref n0, .ref b0, .ref e0, .ref f0, .ref l1, .ref l2, .ref l3, .ref l4, .ref l5, .int (u.2.1 11 2), .int (msk (u.2.2.2 1)), .long (u.1 9 0)])), (n0, .inr (6, [.ref n1, .ref n2, .ref n3, .ref n4, .ref n5, .ref n6, .ref n7, .ref n8, .int (u.2.1 11 0), .int (u.2.1 11 1)])), (n5, zaI k 3 (u.2.1 4))]) (va_runS (As := [.int (nI i)]) (rest := []) ⟨hx, hb, hml, hown, hts⟩ (c_X5_isAxis l D k s.heap.size (nI i)) (va_cwS 1 hts gX8_setAccelerometer_X5_isAxis rfl rfl rfl (by decide +kernel) ⟨Nat.le_of_ble_eq_true rfl, Nat.le_of_ble_eq_true rfl⟩) (z_preS (wc := []) hP hD hK [] rfl rfl zb0 zp0) rfl rfl hl.1 rfl (lv_room (Nat.le_of_ble_eq_true rfl)) dX8_setAccelerometer_1 ⟨Nat.zero_le _, Nat.zero_le _⟩) hP hD hS hA [] [0, 1, 2] rfl rfl rfl (by decide) (fun w H locs hF hP hD hS => ?_)
  subst hF
  have hP : va_P D vwCl [(hm, .inr (7, [.ref p0, .ref c0, .ref n0, .ref b0, .ref e0, .ref f0, .ref l1, .ref l2, .ref l3, .ref l4, .ref l5, .int (u.2.1 11 2), .int (msk (u.2.2.2 1)), .long (u.1 9 0)])), (n0, .inr (6, [.ref n1, .ref n2, .ref n3, .ref n4, .ref n5, .ref n6, .ref n7, .ref n8, .int (u.2.1 11 0), .int (u.2.1 11 1)])), (n5, zaI k 3 (u.2.1 4))] H := hP
  have hD : va_D A [(hm, .inr (7, [.ref p0, .ref c0, .ref n0, .ref b0, .ref e0, .ref f0, .ref l1, .ref l2, .ref l3, .ref l4, .ref l5, .int (u.2.1 11 2), .int (msk (u.2.2.2 1)), .long (u.1 9 0)])), (n0, .inr (6, [.ref n1, .ref n2, .ref n3, .ref n4, .ref n5, .ref n6, .ref n7, .ref n8, .int (u.2.1 11 0), .int (u.2.1 11 1)])), (n5, zaI k 3 (u.2.1 4))] := hD
  refine lv_if_eq (tgt := 18) hx hb dX8_setAccelerometer_4 (by decide) (fun c_1 => ?_) (fun c_1 => ?_)
  · skip
    have c_1 := zb_e c_1
    first | exact absurd (c_1.symm.trans h0) (by decide) | exact absurd (c_1.symm.trans h1) (by decide)
  · skip
    have c_1 := zb_n c_1
    refine lv_iload_n hx hb dX8_setAccelerometer_7 rfl (lv_at hl 2 rfl) ?_
    refine lv_i2l (v := b.toInt64) hx hb dX8_setAccelerometer_8 rfl ?_
    refine lv_ldc2 hx hb hown hl91 dX8_setAccelerometer_9 ?_
    refine z_calli0 (wc := []) (wr := [(hm, .inr (7, [.ref p0, .ref c0, .ref n0, .ref b0, .ref e0, .ref f0, .ref l1, .ref l2, .ref l3, .ref l4, .ref l5, .int (u.2.1 11 2), .int (msk (u.2.2.2 1)), .long (u.1 9 0)])), (n0, .inr (6, [.ref n1, .ref n2, .ref n3, .ref n4, .ref n5, .ref n6, .ref n7, .ref n8, .int (u.2.1 11 0), .int (u.2.1 11 1)])), (n5, zaI k 3 (u.2.1 4))]) (va_runS (As := [.long b.toInt64, .long 10000000]) (rest := []) ⟨hx, hb, hml, hown, hts⟩ (c_X5_isWithin l D k H.size b.toInt64 10000000) (va_cwS 2 hts gX8_setAccelerometer_X5_isWithin rfl rfl rfl (by decide +kernel) ⟨Nat.le_of_ble_eq_true rfl, Nat.le_of_ble_eq_true rfl⟩) (z_preS (wc := []) hP hD hK [] rfl rfl zb0 zp0) rfl rfl hl.1 rfl (lv_room (Nat.le_of_ble_eq_true rfl)) dX8_setAccelerometer_12 ⟨Nat.zero_le _, Nat.zero_le _⟩) hP hD hS hA [] [0, 1, 2] rfl rfl rfl (by decide) (fun w H locs hF hP hD hS => ?_)
    subst hF
    have hP : va_P D vwCl [(hm, .inr (7, [.ref p0, .ref c0, .ref n0, .ref b0, .ref e0, .ref f0, .ref l1, .ref l2, .ref l3, .ref l4, .ref l5, .int (u.2.1 11 2), .int (msk (u.2.2.2 1)), .long (u.1 9 0)])), (n0, .inr (6, [.ref n1, .ref n2, .ref n3, .ref n4, .ref n5, .ref n6, .ref n7, .ref n8, .int (u.2.1 11 0), .int (u.2.1 11 1)])), (n5, zaI k 3 (u.2.1 4))] H := hP
    have hD : va_D A [(hm, .inr (7, [.ref p0, .ref c0, .ref n0, .ref b0, .ref e0, .ref f0, .ref l1, .ref l2, .ref l3, .ref l4, .ref l5, .int (u.2.1 11 2), .int (msk (u.2.2.2 1)), .long (u.1 9 0)])), (n0, .inr (6, [.ref n1, .ref n2, .ref n3, .ref n4, .ref n5, .ref n6, .ref n7, .ref n8, .int (u.2.1 11 0), .int (u.2.1 11 1)])), (n5, zaI k 3 (u.2.1 4))] := hD
    refine W.eq (g2 := F0 m 15 ls (.int (zb (zin b (-10000000) 10000000)) :: [])) (by rw [zLi b (-10000000) 10000000 (A := (-10000000)) (B := 10000000) (by decide) (by decide)]) ?_
    refine lv_if_ne (tgt := 21) hx hb dX8_setAccelerometer_15 (by decide) (fun c_2 => ?_) (fun c_2 => ?_)
    · skip
      have c_2 := zb_n c_2
      refine lv_aload_n hx hb dX8_setAccelerometer_21 rfl (lv_at hl 0 rfl) ?_
      refine va_get (D := D) (ci := 7) (v := .ref n0) (C := RX8) (T := TX8) (N := 14) hx hb hts hinX8 hown hK hP 0 rfl rfl 2 (Nat.le_of_ble_eq_true rfl) hl26 (fun _ h9 => h9) rfl dX8_setAccelerometer_22 ?_
      refine lv_iload_n hx hb dX8_setAccelerometer_25 rfl (lv_at hl 1 rfl) ?_
      refine lv_iload_n hx hb dX8_setAccelerometer_26 rfl (lv_at hl 2 rfl) ?_
      refine z_callv0 (wc := [(n0, .inr (6, [.ref n1, .ref n2, .ref n3, .ref n4, .ref n5, .ref n6, .ref n7, .ref n8, .int (u.2.1 11 0), .int (u.2.1 11 1)])), (n5, zaI k 3 (u.2.1 4))]) (wr := [(hm, .inr (7, [.ref p0, .ref c0, .ref n0, .ref b0, .ref e0, .ref f0, .ref l1, .ref l2, .ref l3, .ref l4, .ref l5, .int (u.2.1 11 2), .int (msk (u.2.2.2 1)), .long (u.1 9 0)]))]) (va_runV (As := [.int (nI i), .int b]) (rest := []) ⟨hx, hb, hml, hown, hts⟩ (c_X7_setAccelerometerBias l D k H.size n0 n1 n2 n3 n4 n5 n6 n7 n8 (u.2.1 4) (u.2.1 11 0) (u.2.1 11 1) i b hi) (cwV 2 hts gX8_setAccelerometer_X7_setAccelerometerBias rfl rfl rfl (by decide +kernel) ⟨Nat.le_of_ble_eq_true rfl, Nat.le_of_ble_eq_true rfl⟩) (z_preV (wc := [(n0, .inr (6, [.ref n1, .ref n2, .ref n3, .ref n4, .ref n5, .ref n6, .ref n7, .ref n8, .int (u.2.1 11 0), .int (u.2.1 11 1)])), (n5, zaI k 3 (u.2.1 4))]) 1 6 hP hD hK [1, 2] rfl rfl rfl rfl zb0 zp0) rfl rfl hl.1 rfl (lv_room (Nat.le_of_ble_eq_true rfl)) dX8_setAccelerometer_27 ⟨Nat.zero_le _, Nat.zero_le _⟩) hP hD hS hA [1, 2] [0] rfl rfl rfl (by decide) (fun w H locs hF hP hD hS => ?_)
      subst hF
      have hP : va_P D vwCl [(hm, .inr (7, [.ref p0, .ref c0, .ref n0, .ref b0, .ref e0, .ref f0, .ref l1, .ref l2, .ref l3, .ref l4, .ref l5, .int (u.2.1 11 2), .int (msk (u.2.2.2 1)), .long (u.1 9 0)])), (n0, .inr (6, [.ref n1, .ref n2, .ref n3, .ref n4, .ref n5, .ref n6, .ref n7, .ref n8, .int (u.2.1 11 0), .int (u.2.1 11 1)])), (n5, zaI k 3 (upd (u.2.1 4) i b))] H := hP
      have hD : va_D A [(hm, .inr (7, [.ref p0, .ref c0, .ref n0, .ref b0, .ref e0, .ref f0, .ref l1, .ref l2, .ref l3, .ref l4, .ref l5, .int (u.2.1 11 2), .int (msk (u.2.2.2 1)), .long (u.1 9 0)])), (n0, .inr (6, [.ref n1, .ref n2, .ref n3, .ref n4, .ref n5, .ref n6, .ref n7, .ref n8, .int (u.2.1 11 0), .int (u.2.1 11 1)])), (n5, zaI k 3 (upd (u.2.1 4) i b))] := hD
      refine lv_iconst (v := 0) hx hb dX8_setAccelerometer_30 (by decide) ?_
      have hP9 := hP.sub (ws' := [(hm, .inr (7, [.ref p0, .ref c0, .ref n0, .ref b0, .ref e0, .ref f0, .ref l1, .ref l2, .ref l3, .ref l4, .ref l5, .int (u.2.1 11 2), .int (msk (u.2.2.2 1)), .long (u.1 9 0)])), (n0, .inr (6, [.ref n1, .ref n2, .ref n3, .ref n4, .ref n5, .ref n6, .ref n7, .ref n8, .int (u.2.1 11 0), .int (u.2.1 11 1)])), (n5, zaI k 3 (upd (u.2.1 4) i b))]) [0, 1, 2] rfl
      have hD9 := hD.sub (ws' := [(hm, .inr (7, [.ref p0, .ref c0, .ref n0, .ref b0, .ref e0, .ref f0, .ref l1, .ref l2, .ref l3, .ref l4, .ref l5, .int (u.2.1 11 2), .int (msk (u.2.2.2 1)), .long (u.1 9 0)])), (n0, .inr (6, [.ref n1, .ref n2, .ref n3, .ref n4, .ref n5, .ref n6, .ref n7, .ref n8, .int (u.2.1 11 0), .int (u.2.1 11 1)])), (n5, zaI k 3 (upd (u.2.1 4) i b))]) [0, 1, 2] (by decide) rfl
      exact W.iret (v := 0) hx hb hr (fun t9 ht9 hW9 => ⟨⟨0, [(hm, .inr (7, [.ref p0, .ref c0, .ref n0, .ref b0, .ref e0, .ref f0, .ref l1, .ref l2, .ref l3, .ref l4, .ref l5, .int (u.2.1 11 2), .int (msk (u.2.2.2 1)), .long (u.1 9 0)])), (n0, .inr (6, [.ref n1, .ref n2, .ref n3, .ref n4, .ref n5, .ref n6, .ref n7, .ref n8, .int (u.2.1 11 0), .int (u.2.1 11 1)])), (n5, zaI k 3 (upd (u.2.1 4) i b))], rfl, ⟨rfl, rfl⟩, by rw [ht9]; exact hP9, hD9⟩, hS.F ht9⟩) hS.2.2 dX8_setAccelerometer_31
    · skip
      have c_2 := zb_e c_2
      first | exact absurd (c_2.symm.trans h0) (by decide) | exact absurd (c_2.symm.trans h1) (by decide)
set_option maxHeartbeats 4000000 in
set_option maxRecDepth 100000 in
theorem c_X8_setAccelerometer_no (l : Launch) (D : va_G) (k : Nat → ClassId) (sz : Nat) (hm p0 c0 n0 b0 e0 f0 l1 l2 l3 l4 l5 : Nat) (u : zS) (x b : Int32) (hno : (zin x 0 2 && zin b (-10000000) 10000000) = false) : Met l yX8_setAccelerometer wsX8_setAccelerometer ({ frames := 1, cells := 0, slots := 0, locals := 23 } : Room) (va_Pc [.ref hm, .int x, .int b] (zPre D k [(hm, .inr (7, [.ref p0, .ref c0, .ref n0, .ref b0, .ref e0, .ref f0, .ref l1, .ref l2, .ref l3, .ref l4, .ref l5, .int (u.2.1 11 2), .int (msk (u.2.2.2 1)), .long (u.1 9 0)]))] sz zX0)) (zQi D [(hm, .inr (7, [.ref p0, .ref c0, .ref n0, .ref b0, .ref e0, .ref f0, .ref l1, .ref l2, .ref l3, .ref l4, .ref l5, .int (u.2.1 11 2), .int (msk (u.2.2.2 1)), .long (u.1 9 0)]))] sz (-2) (fun w : va_W => w = [(hm, .inr (7, [.ref p0, .ref c0, .ref n0, .ref b0, .ref e0, .ref f0, .ref l1, .ref l2, .ref l3, .ref l4, .ref l5, .int (u.2.1 11 2), .int (msk (u.2.2.2 1)), .long (u.1 9 0)]))])) 0 0 (va_A [(hm, .inr (7, [.ref p0, .ref c0, .ref n0, .ref b0, .ref e0, .ref f0, .ref l1, .ref l2, .ref l3, .ref l4, .ref l5, .int (u.2.1 11 2), .int (msk (u.2.2.2 1)), .long (u.1 9 0)]))] sz) := by
  refine Met.ofW (cc := cX8_setAccelerometer) (maxL := 3) (ret := (some .int)) (by decide) rfl ?_
  intro p e s m args below meth c s₁ B hml hv
  obtain ⟨rfl, hsz, hP, hK, hD0, hE⟩ := hv
  have hx := B.exec
  have hb := B.bytes
  have hr := B.returns
  have hts := atoms_spec (ws := wsX8_setAccelerometer) B.pre
  have hown : s.vm.findClass RX8 = some m.cls := findClass_of_methodNamed B.named
  have hlocks := B.notSynchronized
  subst hsz
  have hD := hD0.self (sz := s.heap.size)
  delta zQi zB
  generalize hAe : va_A [(hm, .inr (7, [.ref p0, .ref c0, .ref n0, .ref b0, .ref e0, .ref f0, .ref l1, .ref l2, .ref l3, .ref l4, .ref l5, .int (u.2.1 11 2), .int (msk (u.2.2.2 1)), .long (u.1 9 0)]))] s.heap.size = A at hD hE ⊢
  have hA : ∀ q : Nat, s.heap.size ≤ q → A q := fun q h => by rw [← hAe]; exact Or.inr h
  have hS : va_S A s.heap s.heap [] := va_S.rf
  have hl := lv_entry [.ref hm, .int x, .int b] (n := 3) (Nat.le_of_ble_eq_true rfl)
  rw [lg_entry_eq]
  generalize (lg_sl [.ref hm, .int x, .int b] ++ List.replicate (3 - (lg_sl [.ref hm, .int x, .int b]).length) Slot.unset).toArray = ls at hl ⊢
  have hl : lv_has ls 3 [(0, .ref hm), (1, .int x), (2, .int b)] := hl
  have hl91 : (Cond.constantLong RX8 91 (10000000)).before #[Value.ref hm, Value.int x, Value.int b] s = true := zw hts 1 rfl
  refine lv_iload_n hx hb dX8_setAccelerometer_0 rfl (lv_at hl 1 rfl) ?_
  refine z_calli0 (wc := []) (wr := [(hm, .inr (7, [.ref p0, .ref c0, .ref n0, .ref b0, .ref e0, .ref f0, .ref l1, .ref l2, .ref l3, .ref l4, .ref l5, .int (u.2.1 11 2), .int (msk (u.2.2.2 1)), .long (u.1 9 0)]))]) (va_runS (As := [.int x]) (rest := []) ⟨hx, hb, hml, hown, hts⟩ (c_X5_isAxis l D k s.heap.size x) (va_cwS 1 hts gX8_setAccelerometer_X5_isAxis rfl rfl rfl (by decide +kernel) ⟨Nat.le_of_ble_eq_true rfl, Nat.le_of_ble_eq_true rfl⟩) (z_preS (wc := []) hP hD hK [] rfl rfl zb0 zp0) rfl rfl hl.1 rfl (lv_room (Nat.le_of_ble_eq_true rfl)) dX8_setAccelerometer_1 ⟨Nat.zero_le _, Nat.zero_le _⟩) hP hD hS hA [] [0] rfl rfl rfl (by decide) (fun w H locs hF hP hD hS => ?_)
  subst hF
  have hP : va_P D vwCl [(hm, .inr (7, [.ref p0, .ref c0, .ref n0, .ref b0, .ref e0, .ref f0, .ref l1, .ref l2, .ref l3, .ref l4, .ref l5, .int (u.2.1 11 2), .int (msk (u.2.2.2 1)), .long (u.1 9 0)]))] H := hP
  have hD : va_D A [(hm, .inr (7, [.ref p0, .ref c0, .ref n0, .ref b0, .ref e0, .ref f0, .ref l1, .ref l2, .ref l3, .ref l4, .ref l5, .int (u.2.1 11 2), .int (msk (u.2.2.2 1)), .long (u.1 9 0)]))] := hD
  refine lv_if_eq (tgt := 18) hx hb dX8_setAccelerometer_4 (by decide) (fun c_1 => ?_) (fun c_1 => ?_)
  · skip
    have c_1 := zb_e c_1
    refine lv_bipush (v := (-2)) hx hb dX8_setAccelerometer_18 (by decide) ?_
    have hP9 := hP.sub (ws' := [(hm, .inr (7, [.ref p0, .ref c0, .ref n0, .ref b0, .ref e0, .ref f0, .ref l1, .ref l2, .ref l3, .ref l4, .ref l5, .int (u.2.1 11 2), .int (msk (u.2.2.2 1)), .long (u.1 9 0)]))]) [0] rfl
    have hD9 := hD.sub (ws' := [(hm, .inr (7, [.ref p0, .ref c0, .ref n0, .ref b0, .ref e0, .ref f0, .ref l1, .ref l2, .ref l3, .ref l4, .ref l5, .int (u.2.1 11 2), .int (msk (u.2.2.2 1)), .long (u.1 9 0)]))]) [0] (by decide) rfl
    exact W.iret (v := (-2)) hx hb hr (fun t9 ht9 hW9 => ⟨⟨(-2), [(hm, .inr (7, [.ref p0, .ref c0, .ref n0, .ref b0, .ref e0, .ref f0, .ref l1, .ref l2, .ref l3, .ref l4, .ref l5, .int (u.2.1 11 2), .int (msk (u.2.2.2 1)), .long (u.1 9 0)]))], rfl, ⟨rfl, rfl⟩, by rw [ht9]; exact hP9, hD9⟩, hS.F ht9⟩) hS.2.2 dX8_setAccelerometer_20
  · skip
    have c_1 := zb_n c_1
    refine lv_iload_n hx hb dX8_setAccelerometer_7 rfl (lv_at hl 2 rfl) ?_
    refine lv_i2l (v := b.toInt64) hx hb dX8_setAccelerometer_8 rfl ?_
    refine lv_ldc2 hx hb hown hl91 dX8_setAccelerometer_9 ?_
    refine z_calli0 (wc := []) (wr := [(hm, .inr (7, [.ref p0, .ref c0, .ref n0, .ref b0, .ref e0, .ref f0, .ref l1, .ref l2, .ref l3, .ref l4, .ref l5, .int (u.2.1 11 2), .int (msk (u.2.2.2 1)), .long (u.1 9 0)]))]) (va_runS (As := [.long b.toInt64, .long 10000000]) (rest := []) ⟨hx, hb, hml, hown, hts⟩ (c_X5_isWithin l D k H.size b.toInt64 10000000) (va_cwS 2 hts gX8_setAccelerometer_X5_isWithin rfl rfl rfl (by decide +kernel) ⟨Nat.le_of_ble_eq_true rfl, Nat.le_of_ble_eq_true rfl⟩) (z_preS (wc := []) hP hD hK [] rfl rfl zb0 zp0) rfl rfl hl.1 rfl (lv_room (Nat.le_of_ble_eq_true rfl)) dX8_setAccelerometer_12 ⟨Nat.zero_le _, Nat.zero_le _⟩) hP hD hS hA [] [0] rfl rfl rfl (by decide) (fun w H locs hF hP hD hS => ?_)
    subst hF
    have hP : va_P D vwCl [(hm, .inr (7, [.ref p0, .ref c0, .ref n0, .ref b0, .ref e0, .ref f0, .ref l1, .ref l2, .ref l3, .ref l4, .ref l5, .int (u.2.1 11 2), .int (msk (u.2.2.2 1)), .long (u.1 9 0)]))] H := hP
    have hD : va_D A [(hm, .inr (7, [.ref p0, .ref c0, .ref n0, .ref b0, .ref e0, .ref f0, .ref l1, .ref l2, .ref l3, .ref l4, .ref l5, .int (u.2.1 11 2), .int (msk (u.2.2.2 1)), .long (u.1 9 0)]))] := hD
    refine W.eq (g2 := F0 m 15 ls (.int (zb (zin b (-10000000) 10000000)) :: [])) (by rw [zLi b (-10000000) 10000000 (A := (-10000000)) (B := 10000000) (by decide) (by decide)]) ?_
    refine lv_if_ne (tgt := 21) hx hb dX8_setAccelerometer_15 (by decide) (fun c_2 => ?_) (fun c_2 => ?_)
    · skip
      have c_2 := zb_n c_2
      rw [c_1, c_2] at hno; exact absurd hno (by decide)
    · skip
      have c_2 := zb_e c_2
      refine lv_bipush (v := (-2)) hx hb dX8_setAccelerometer_18 (by decide) ?_
      have hP9 := hP.sub (ws' := [(hm, .inr (7, [.ref p0, .ref c0, .ref n0, .ref b0, .ref e0, .ref f0, .ref l1, .ref l2, .ref l3, .ref l4, .ref l5, .int (u.2.1 11 2), .int (msk (u.2.2.2 1)), .long (u.1 9 0)]))]) [0] rfl
      have hD9 := hD.sub (ws' := [(hm, .inr (7, [.ref p0, .ref c0, .ref n0, .ref b0, .ref e0, .ref f0, .ref l1, .ref l2, .ref l3, .ref l4, .ref l5, .int (u.2.1 11 2), .int (msk (u.2.2.2 1)), .long (u.1 9 0)]))]) [0] (by decide) rfl
      exact W.iret (v := (-2)) hx hb hr (fun t9 ht9 hW9 => ⟨⟨(-2), [(hm, .inr (7, [.ref p0, .ref c0, .ref n0, .ref b0, .ref e0, .ref f0, .ref l1, .ref l2, .ref l3, .ref l4, .ref l5, .int (u.2.1 11 2), .int (msk (u.2.2.2 1)), .long (u.1 9 0)]))], rfl, ⟨rfl, rfl⟩, by rw [ht9]; exact hP9, hD9⟩, hS.F ht9⟩) hS.2.2 dX8_setAccelerometer_20
set_option maxHeartbeats 4000000 in
set_option maxRecDepth 100000 in
theorem c_X8_setEarthRate_ok (l : Launch) (D : va_G) (k : Nat → ClassId) (sz : Nat) (hm p0 c0 n0 b0 e0 f0 l1 l2 l3 l4 l5 : Nat) (u : zS) (a b : Int32) (h0 : zin a (-65536) 65536 = true) (h1 : zin b (-65536) 65536 = true) : Met l yX8_setEarthRate wsX8_setEarthRate ({ frames := 1, cells := 0, slots := 0, locals := 23 } : Room) (va_Pc [.ref hm, .int a, .int b] (zPre D k [(hm, .inr (7, [.ref p0, .ref c0, .ref n0, .ref b0, .ref e0, .ref f0, .ref l1, .ref l2, .ref l3, .ref l4, .ref l5, .int (u.2.1 11 2), .int (msk (u.2.2.2 1)), .long (u.1 9 0)])), (l1, zaJ k 3 (u.1 8))] sz zX0)) (zQi D [(hm, .inr (7, [.ref p0, .ref c0, .ref n0, .ref b0, .ref e0, .ref f0, .ref l1, .ref l2, .ref l3, .ref l4, .ref l5, .int (u.2.1 11 2), .int (msk (u.2.2.2 1)), .long (u.1 9 0)])), (l1, zaJ k 3 (u.1 8))] sz 0 (fun w : va_W => w = [(hm, .inr (7, [.ref p0, .ref c0, .ref n0, .ref b0, .ref e0, .ref f0, .ref l1, .ref l2, .ref l3, .ref l4, .ref l5, .int (u.2.1 11 2), .int (msk (u.2.2.2 1)), .long (u.1 9 0)])), (l1, zaJ k 3 (vp_updL (vp_updL (u.1 8) 0 a.toInt64) 2 b.toInt64))])) 0 0 (va_A [(hm, .inr (7, [.ref p0, .ref c0, .ref n0, .ref b0, .ref e0, .ref f0, .ref l1, .ref l2, .ref l3, .ref l4, .ref l5, .int (u.2.1 11 2), .int (msk (u.2.2.2 1)), .long (u.1 9 0)])), (l1, zaJ k 3 (u.1 8))] sz) := by
  refine Met.ofW (cc := cX8_setEarthRate) (maxL := 3) (ret := (some .int)) (by decide) rfl ?_
  intro p e s m args below meth c s₁ B hml hv
  obtain ⟨rfl, hsz, hP, hK, hD0, hE⟩ := hv
  have hx := B.exec
  have hb := B.bytes
  have hr := B.returns
  have hts := atoms_spec (ws := wsX8_setEarthRate) B.pre
  have hown : s.vm.findClass RX8 = some m.cls := findClass_of_methodNamed B.named
  have hlocks := B.notSynchronized
  subst hsz
  have hD := hD0.self (sz := s.heap.size)
  delta zQi zB
  generalize hAe : va_A [(hm, .inr (7, [.ref p0, .ref c0, .ref n0, .ref b0, .ref e0, .ref f0, .ref l1, .ref l2, .ref l3, .ref l4, .ref l5, .int (u.2.1 11 2), .int (msk (u.2.2.2 1)), .long (u.1 9 0)])), (l1, zaJ k 3 (u.1 8))] s.heap.size = A at hD hE ⊢
  have hA : ∀ q : Nat, s.heap.size ≤ q → A q := fun q h => by rw [← hAe]; exact Or.inr h
  have hS : va_S A s.heap s.heap [] := va_S.rf
  have hl := lv_entry [.ref hm, .int a, .int b] (n := 3) (Nat.le_of_ble_eq_true rfl)
  rw [lg_entry_eq]
  generalize (lg_sl [.ref hm, .int a, .int b] ++ List.replicate (3 - (lg_sl [.ref hm, .int a, .int b]).length) Slot.unset).toArray = ls at hl ⊢
  have hl : lv_has ls 3 [(0, .ref hm), (1, .int a), (2, .int b)] := hl
  have hl97 : (Cond.constantLong RX8 97 (65536)).before #[Value.ref hm, Value.int a, Value.int b] s = true := zw hts 1 rfl
  have hl51 : (Cond.fieldLink RX8 51 "InertialReference" "earthRate" "[J").before #[Value.ref hm, Value.int a, Value.int b] s = true := zw hts 2 rfl
  have hinX8 : ∀ w ∈ u_ws RX8 TX8 14, w ∈ wsX8_setEarthRate := fun w h => List.mem_cons_of_mem _ (List.mem_append_right _ h)
  refine lv_iload_n hx hb dX8_setEarthRate_0 rfl (lv_at hl 1 rfl) ?_
  refine lv_i2l (v := a.toInt64) hx hb dX8_setEarthRate_1 rfl ?_
  refine lv_ldc2 hx hb hown hl97 dX8_setEarthRate_2 ?_
  refine z_calli0 (wc := []) (wr := [(hm, .inr (7, [.ref p0, .ref c0, .ref n0, .ref b0, .ref e0, .ref f0, .ref l1, .ref l2, .ref l3, .ref l4, .ref l5, .int (u.2.1 11 2), .int (msk (u.2.2.2 1)), .long (u.1 9 0)])), (l1, zaJ k 3 (u.1 8))]) (va_runS (As := [.long a.toInt64, .long 65536]) (rest := []) ⟨hx, hb, hml, hown, hts⟩ (c_X5_isWithin l D k s.heap.size a.toInt64 65536) (va_cwS 2 hts gX8_setEarthRate_X5_isWithin rfl rfl rfl (by decide +kernel) ⟨Nat.le_of_ble_eq_true rfl, Nat.le_of_ble_eq_true rfl⟩) (z_preS (wc := []) hP hD hK [] rfl rfl zb0 zp0) rfl rfl hl.1 rfl (lv_room (Nat.le_of_ble_eq_true rfl)) dX8_setEarthRate_5 ⟨Nat.zero_le _, Nat.zero_le _⟩) hP hD hS hA [] [0, 1] rfl rfl rfl (by decide) (fun w H locs hF hP hD hS => ?_)
  subst hF
  have hP : va_P D vwCl [(hm, .inr (7, [.ref p0, .ref c0, .ref n0, .ref b0, .ref e0, .ref f0, .ref l1, .ref l2, .ref l3, .ref l4, .ref l5, .int (u.2.1 11 2), .int (msk (u.2.2.2 1)), .long (u.1 9 0)])), (l1, zaJ k 3 (u.1 8))] H := hP
  have hD : va_D A [(hm, .inr (7, [.ref p0, .ref c0, .ref n0, .ref b0, .ref e0, .ref f0, .ref l1, .ref l2, .ref l3, .ref l4, .ref l5, .int (u.2.1 11 2), .int (msk (u.2.2.2 1)), .long (u.1 9 0)])), (l1, zaJ k 3 (u.1 8))] := hD
  refine W.eq (g2 := F0 m 8 ls (.int (zb (zin a (-65536) 65536)) :: [])) (by rw [zLi a (-65536) 65536 (A := (-65536)) (B := 65536) (by decide) (by decide)]) ?_
  refine lv_if_eq (tgt := 22) hx hb dX8_setEarthRate_8 (by decide) (fun c_1 => ?_) (fun c_1 => ?_)
  · skip
    have c_1 := zb_e c_1
    first | exact absurd (c_1.symm.trans h0) (by decide) | exact absurd (c_1.symm.trans h1) (by decide)
  · skip
    have c_1 := zb_n c_1
    refine lv_iload_n hx hb dX8_setEarthRate_11 rfl (lv_at hl 2 rfl) ?_
    refine lv_i2l (v := b.toInt64) hx hb dX8_setEarthRate_12 rfl ?_
    refine lv_ldc2 hx hb hown hl97 dX8_setEarthRate_13 ?_
    refine z_calli0 (wc := []) (wr := [(hm, .inr (7, [.ref p0, .ref c0, .ref n0, .ref b0, .ref e0, .ref f0, .ref l1, .ref l2, .ref l3, .ref l4, .ref l5, .int (u.2.1 11 2), .int (msk (u.2.2.2 1)), .long (u.1 9 0)])), (l1, zaJ k 3 (u.1 8))]) (va_runS (As := [.long b.toInt64, .long 65536]) (rest := []) ⟨hx, hb, hml, hown, hts⟩ (c_X5_isWithin l D k H.size b.toInt64 65536) (va_cwS 2 hts gX8_setEarthRate_X5_isWithin rfl rfl rfl (by decide +kernel) ⟨Nat.le_of_ble_eq_true rfl, Nat.le_of_ble_eq_true rfl⟩) (z_preS (wc := []) hP hD hK [] rfl rfl zb0 zp0) rfl rfl hl.1 rfl (lv_room (Nat.le_of_ble_eq_true rfl)) dX8_setEarthRate_16 ⟨Nat.zero_le _, Nat.zero_le _⟩) hP hD hS hA [] [0, 1] rfl rfl rfl (by decide) (fun w H locs hF hP hD hS => ?_)
    subst hF
    have hP : va_P D vwCl [(hm, .inr (7, [.ref p0, .ref c0, .ref n0, .ref b0, .ref e0, .ref f0, .ref l1, .ref l2, .ref l3, .ref l4, .ref l5, .int (u.2.1 11 2), .int (msk (u.2.2.2 1)), .long (u.1 9 0)])), (l1, zaJ k 3 (u.1 8))] H := hP
    have hD : va_D A [(hm, .inr (7, [.ref p0, .ref c0, .ref n0, .ref b0, .ref e0, .ref f0, .ref l1, .ref l2, .ref l3, .ref l4, .ref l5, .int (u.2.1 11 2), .int (msk (u.2.2.2 1)), .long (u.1 9 0)])), (l1, zaJ k 3 (u.1 8))] := hD
    refine W.eq (g2 := F0 m 19 ls (.int (zb (zin b (-65536) 65536)) :: [])) (by rw [zLi b (-65536) 65536 (A := (-65536)) (B := 65536) (by decide) (by decide)]) ?_
    refine lv_if_ne (tgt := 25) hx hb dX8_setEarthRate_19 (by decide) (fun c_2 => ?_) (fun c_2 => ?_)
    · skip
      have c_2 := zb_n c_2
      refine lv_aload_n hx hb dX8_setEarthRate_25 rfl (lv_at hl 0 rfl) ?_
      refine va_get (D := D) (ci := 7) (v := .ref l1) (C := RX8) (T := TX8) (N := 14) hx hb hts hinX8 hown hK hP 0 rfl rfl 6 (Nat.le_of_ble_eq_true rfl) hl51 (fun _ h9 => h9) rfl dX8_setEarthRate_26 ?_
      refine lv_iconst (v := 0) hx hb dX8_setEarthRate_29 (by decide) ?_
      refine lv_iload_n hx hb dX8_setEarthRate_30 rfl (lv_at hl 1 rfl) ?_
      refine lv_i2l (v := a.toInt64) hx hb dX8_setEarthRate_31 rfl ?_
      refine z_last hx hb hK hP hD hS 1 rfl 0 zx0 (by decide) (ws' := [(hm, .inr (7, [.ref p0, .ref c0, .ref n0, .ref b0, .ref e0, .ref f0, .ref l1, .ref l2, .ref l3, .ref l4, .ref l5, .int (u.2.1 11 2), .int (msk (u.2.2.2 1)), .long (u.1 9 0)])), (l1, zaJ k 3 (vp_updL (u.1 8) 0 a.toInt64))]) rfl dX8_setEarthRate_32 (fun H locs hP hD hS => ?_)
      refine lv_aload_n hx hb dX8_setEarthRate_33 rfl (lv_at hl 0 rfl) ?_
      refine va_get (D := D) (ci := 7) (v := .ref l1) (C := RX8) (T := TX8) (N := 14) hx hb hts hinX8 hown hK hP 0 rfl rfl 6 (Nat.le_of_ble_eq_true rfl) hl51 (fun _ h9 => h9) rfl dX8_setEarthRate_34 ?_
      refine lv_iconst (v := 2) hx hb dX8_setEarthRate_37 (by decide) ?_
      refine lv_iload_n hx hb dX8_setEarthRate_38 rfl (lv_at hl 2 rfl) ?_
      refine lv_i2l (v := b.toInt64) hx hb dX8_setEarthRate_39 rfl ?_
      refine z_last hx hb hK hP hD hS 1 rfl 2 zx2 (by decide) (ws' := [(hm, .inr (7, [.ref p0, .ref c0, .ref n0, .ref b0, .ref e0, .ref f0, .ref l1, .ref l2, .ref l3, .ref l4, .ref l5, .int (u.2.1 11 2), .int (msk (u.2.2.2 1)), .long (u.1 9 0)])), (l1, zaJ k 3 (vp_updL (vp_updL (u.1 8) 0 a.toInt64) 2 b.toInt64))]) rfl dX8_setEarthRate_40 (fun H locs hP hD hS => ?_)
      refine lv_iconst (v := 0) hx hb dX8_setEarthRate_41 (by decide) ?_
      have hP9 := hP.sub (ws' := [(hm, .inr (7, [.ref p0, .ref c0, .ref n0, .ref b0, .ref e0, .ref f0, .ref l1, .ref l2, .ref l3, .ref l4, .ref l5, .int (u.2.1 11 2), .int (msk (u.2.2.2 1)), .long (u.1 9 0)])), (l1, zaJ k 3 (vp_updL (vp_updL (u.1 8) 0 a.toInt64) 2 b.toInt64))]) [0, 1] rfl
      have hD9 := hD.sub (ws' := [(hm, .inr (7, [.ref p0, .ref c0, .ref n0, .ref b0, .ref e0, .ref f0, .ref l1, .ref l2, .ref l3, .ref l4, .ref l5, .int (u.2.1 11 2), .int (msk (u.2.2.2 1)), .long (u.1 9 0)])), (l1, zaJ k 3 (vp_updL (vp_updL (u.1 8) 0 a.toInt64) 2 b.toInt64))]) [0, 1] (by decide) rfl
      exact W.iret (v := 0) hx hb hr (fun t9 ht9 hW9 => ⟨⟨0, [(hm, .inr (7, [.ref p0, .ref c0, .ref n0, .ref b0, .ref e0, .ref f0, .ref l1, .ref l2, .ref l3, .ref l4, .ref l5, .int (u.2.1 11 2), .int (msk (u.2.2.2 1)), .long (u.1 9 0)])), (l1, zaJ k 3 (vp_updL (vp_updL (u.1 8) 0 a.toInt64) 2 b.toInt64))], rfl, ⟨rfl, rfl⟩, by rw [ht9]; exact hP9, hD9⟩, hS.F ht9⟩) hS.2.2 dX8_setEarthRate_42
    · skip
      have c_2 := zb_e c_2
      first | exact absurd (c_2.symm.trans h0) (by decide) | exact absurd (c_2.symm.trans h1) (by decide)
set_option maxHeartbeats 4000000 in
set_option maxRecDepth 100000 in
theorem c_X8_setEarthRate_no (l : Launch) (D : va_G) (k : Nat → ClassId) (sz : Nat) (hm p0 c0 n0 b0 e0 f0 l1 l2 l3 l4 l5 : Nat) (u : zS) (a b : Int32) (hno : (zin a (-65536) 65536 && zin b (-65536) 65536) = false) : Met l yX8_setEarthRate wsX8_setEarthRate ({ frames := 1, cells := 0, slots := 0, locals := 23 } : Room) (va_Pc [.ref hm, .int a, .int b] (zPre D k [(hm, .inr (7, [.ref p0, .ref c0, .ref n0, .ref b0, .ref e0, .ref f0, .ref l1, .ref l2, .ref l3, .ref l4, .ref l5, .int (u.2.1 11 2), .int (msk (u.2.2.2 1)), .long (u.1 9 0)]))] sz zX0)) (zQi D [(hm, .inr (7, [.ref p0, .ref c0, .ref n0, .ref b0, .ref e0, .ref f0, .ref l1, .ref l2, .ref l3, .ref l4, .ref l5, .int (u.2.1 11 2), .int (msk (u.2.2.2 1)), .long (u.1 9 0)]))] sz (-2) (fun w : va_W => w = [(hm, .inr (7, [.ref p0, .ref c0, .ref n0, .ref b0, .ref e0, .ref f0, .ref l1, .ref l2, .ref l3, .ref l4, .ref l5, .int (u.2.1 11 2), .int (msk (u.2.2.2 1)), .long (u.1 9 0)]))])) 0 0 (va_A [(hm, .inr (7, [.ref p0, .ref c0, .ref n0, .ref b0, .ref e0, .ref f0, .ref l1, .ref l2, .ref l3, .ref l4, .ref l5, .int (u.2.1 11 2), .int (msk (u.2.2.2 1)), .long (u.1 9 0)]))] sz) := by
  refine Met.ofW (cc := cX8_setEarthRate) (maxL := 3) (ret := (some .int)) (by decide) rfl ?_
  intro p e s m args below meth c s₁ B hml hv
  obtain ⟨rfl, hsz, hP, hK, hD0, hE⟩ := hv
  have hx := B.exec
  have hb := B.bytes
  have hr := B.returns
  have hts := atoms_spec (ws := wsX8_setEarthRate) B.pre
  have hown : s.vm.findClass RX8 = some m.cls := findClass_of_methodNamed B.named
  have hlocks := B.notSynchronized
  subst hsz
  have hD := hD0.self (sz := s.heap.size)
  delta zQi zB
  generalize hAe : va_A [(hm, .inr (7, [.ref p0, .ref c0, .ref n0, .ref b0, .ref e0, .ref f0, .ref l1, .ref l2, .ref l3, .ref l4, .ref l5, .int (u.2.1 11 2), .int (msk (u.2.2.2 1)), .long (u.1 9 0)]))] s.heap.size = A at hD hE ⊢
  have hA : ∀ q : Nat, s.heap.size ≤ q → A q := fun q h => by rw [← hAe]; exact Or.inr h
  have hS : va_S A s.heap s.heap [] := va_S.rf
  have hl := lv_entry [.ref hm, .int a, .int b] (n := 3) (Nat.le_of_ble_eq_true rfl)
  rw [lg_entry_eq]
  generalize (lg_sl [.ref hm, .int a, .int b] ++ List.replicate (3 - (lg_sl [.ref hm, .int a, .int b]).length) Slot.unset).toArray = ls at hl ⊢
  have hl : lv_has ls 3 [(0, .ref hm), (1, .int a), (2, .int b)] := hl
  have hl97 : (Cond.constantLong RX8 97 (65536)).before #[Value.ref hm, Value.int a, Value.int b] s = true := zw hts 1 rfl
  refine lv_iload_n hx hb dX8_setEarthRate_0 rfl (lv_at hl 1 rfl) ?_
  refine lv_i2l (v := a.toInt64) hx hb dX8_setEarthRate_1 rfl ?_
  refine lv_ldc2 hx hb hown hl97 dX8_setEarthRate_2 ?_
  refine z_calli0 (wc := []) (wr := [(hm, .inr (7, [.ref p0, .ref c0, .ref n0, .ref b0, .ref e0, .ref f0, .ref l1, .ref l2, .ref l3, .ref l4, .ref l5, .int (u.2.1 11 2), .int (msk (u.2.2.2 1)), .long (u.1 9 0)]))]) (va_runS (As := [.long a.toInt64, .long 65536]) (rest := []) ⟨hx, hb, hml, hown, hts⟩ (c_X5_isWithin l D k s.heap.size a.toInt64 65536) (va_cwS 2 hts gX8_setEarthRate_X5_isWithin rfl rfl rfl (by decide +kernel) ⟨Nat.le_of_ble_eq_true rfl, Nat.le_of_ble_eq_true rfl⟩) (z_preS (wc := []) hP hD hK [] rfl rfl zb0 zp0) rfl rfl hl.1 rfl (lv_room (Nat.le_of_ble_eq_true rfl)) dX8_setEarthRate_5 ⟨Nat.zero_le _, Nat.zero_le _⟩) hP hD hS hA [] [0] rfl rfl rfl (by decide) (fun w H locs hF hP hD hS => ?_)
  subst hF
  have hP : va_P D vwCl [(hm, .inr (7, [.ref p0, .ref c0, .ref n0, .ref b0, .ref e0, .ref f0, .ref l1, .ref l2, .ref l3, .ref l4, .ref l5, .int (u.2.1 11 2), .int (msk (u.2.2.2 1)), .long (u.1 9 0)]))] H := hP
  have hD : va_D A [(hm, .inr (7, [.ref p0, .ref c0, .ref n0, .ref b0, .ref e0, .ref f0, .ref l1, .ref l2, .ref l3, .ref l4, .ref l5, .int (u.2.1 11 2), .int (msk (u.2.2.2 1)), .long (u.1 9 0)]))] := hD
  refine W.eq (g2 := F0 m 8 ls (.int (zb (zin a (-65536) 65536)) :: [])) (by rw [zLi a (-65536) 65536 (A := (-65536)) (B := 65536) (by decide) (by decide)]) ?_
  refine lv_if_eq (tgt := 22) hx hb dX8_setEarthRate_8 (by decide) (fun c_1 => ?_) (fun c_1 => ?_)
  · skip
    have c_1 := zb_e c_1
    refine lv_bipush (v := (-2)) hx hb dX8_setEarthRate_22 (by decide) ?_
    have hP9 := hP.sub (ws' := [(hm, .inr (7, [.ref p0, .ref c0, .ref n0, .ref b0, .ref e0, .ref f0, .ref l1, .ref l2, .ref l3, .ref l4, .ref l5, .int (u.2.1 11 2), .int (msk (u.2.2.2 1)), .long (u.1 9 0)]))]) [0] rfl
    have hD9 := hD.sub (ws' := [(hm, .inr (7, [.ref p0, .ref c0, .ref n0, .ref b0, .ref e0, .ref f0, .ref l1, .ref l2, .ref l3, .ref l4, .ref l5, .int (u.2.1 11 2), .int (msk (u.2.2.2 1)), .long (u.1 9 0)]))]) [0] (by decide) rfl
    exact W.iret (v := (-2)) hx hb hr (fun t9 ht9 hW9 => ⟨⟨(-2), [(hm, .inr (7, [.ref p0, .ref c0, .ref n0, .ref b0, .ref e0, .ref f0, .ref l1, .ref l2, .ref l3, .ref l4, .ref l5, .int (u.2.1 11 2), .int (msk (u.2.2.2 1)), .long (u.1 9 0)]))], rfl, ⟨rfl, rfl⟩, by rw [ht9]; exact hP9, hD9⟩, hS.F ht9⟩) hS.2.2 dX8_setEarthRate_24
  · skip
    have c_1 := zb_n c_1
    refine lv_iload_n hx hb dX8_setEarthRate_11 rfl (lv_at hl 2 rfl) ?_
    refine lv_i2l (v := b.toInt64) hx hb dX8_setEarthRate_12 rfl ?_
    refine lv_ldc2 hx hb hown hl97 dX8_setEarthRate_13 ?_
    refine z_calli0 (wc := []) (wr := [(hm, .inr (7, [.ref p0, .ref c0, .ref n0, .ref b0, .ref e0, .ref f0, .ref l1, .ref l2, .ref l3, .ref l4, .ref l5, .int (u.2.1 11 2), .int (msk (u.2.2.2 1)), .long (u.1 9 0)]))]) (va_runS (As := [.long b.toInt64, .long 65536]) (rest := []) ⟨hx, hb, hml, hown, hts⟩ (c_X5_isWithin l D k H.size b.toInt64 65536) (va_cwS 2 hts gX8_setEarthRate_X5_isWithin rfl rfl rfl (by decide +kernel) ⟨Nat.le_of_ble_eq_true rfl, Nat.le_of_ble_eq_true rfl⟩) (z_preS (wc := []) hP hD hK [] rfl rfl zb0 zp0) rfl rfl hl.1 rfl (lv_room (Nat.le_of_ble_eq_true rfl)) dX8_setEarthRate_16 ⟨Nat.zero_le _, Nat.zero_le _⟩) hP hD hS hA [] [0] rfl rfl rfl (by decide) (fun w H locs hF hP hD hS => ?_)
    subst hF
    have hP : va_P D vwCl [(hm, .inr (7, [.ref p0, .ref c0, .ref n0, .ref b0, .ref e0, .ref f0, .ref l1, .ref l2, .ref l3, .ref l4, .ref l5, .int (u.2.1 11 2), .int (msk (u.2.2.2 1)), .long (u.1 9 0)]))] H := hP
    have hD : va_D A [(hm, .inr (7, [.ref p0, .ref c0, .ref n0, .ref b0, .ref e0, .ref f0, .ref l1, .ref l2, .ref l3, .ref l4, .ref l5, .int (u.2.1 11 2), .int (msk (u.2.2.2 1)), .long (u.1 9 0)]))] := hD
    refine W.eq (g2 := F0 m 19 ls (.int (zb (zin b (-65536) 65536)) :: [])) (by rw [zLi b (-65536) 65536 (A := (-65536)) (B := 65536) (by decide) (by decide)]) ?_
    refine lv_if_ne (tgt := 25) hx hb dX8_setEarthRate_19 (by decide) (fun c_2 => ?_) (fun c_2 => ?_)
    · skip
      have c_2 := zb_n c_2
      rw [c_1, c_2] at hno; exact absurd hno (by decide)
    · skip
      have c_2 := zb_e c_2
      refine lv_bipush (v := (-2)) hx hb dX8_setEarthRate_22 (by decide) ?_
      have hP9 := hP.sub (ws' := [(hm, .inr (7, [.ref p0, .ref c0, .ref n0, .ref b0, .ref e0, .ref f0, .ref l1, .ref l2, .ref l3, .ref l4, .ref l5, .int (u.2.1 11 2), .int (msk (u.2.2.2 1)), .long (u.1 9 0)]))]) [0] rfl
      have hD9 := hD.sub (ws' := [(hm, .inr (7, [.ref p0, .ref c0, .ref n0, .ref b0, .ref e0, .ref f0, .ref l1, .ref l2, .ref l3, .ref l4, .ref l5, .int (u.2.1 11 2), .int (msk (u.2.2.2 1)), .long (u.1 9 0)]))]) [0] (by decide) rfl
      exact W.iret (v := (-2)) hx hb hr (fun t9 ht9 hW9 => ⟨⟨(-2), [(hm, .inr (7, [.ref p0, .ref c0, .ref n0, .ref b0, .ref e0, .ref f0, .ref l1, .ref l2, .ref l3, .ref l4, .ref l5, .int (u.2.1 11 2), .int (msk (u.2.2.2 1)), .long (u.1 9 0)]))], rfl, ⟨rfl, rfl⟩, by rw [ht9]; exact hP9, hD9⟩, hS.F ht9⟩) hS.2.2 dX8_setEarthRate_24
set_option maxHeartbeats 4000000 in
set_option maxRecDepth 100000 in
theorem c_X8_setTemperature_ok (l : Launch) (D : va_G) (k : Nat → ClassId) (sz : Nat) (hm p0 c0 n0 n1 n2 n3 n4 n5 n6 n7 n8 b0 e0 f0 l1 l2 l3 l4 l5 : Nat) (u : zS) (a : Int32) (h0 : zin a (-40) 85 = true) : Met l yX8_setTemperature wsX8_setTemperature ({ frames := 1, cells := 0, slots := 0, locals := 22 } : Room) (va_Pc [.ref hm, .int a] (zPre D k [(hm, .inr (7, [.ref p0, .ref c0, .ref n0, .ref b0, .ref e0, .ref f0, .ref l1, .ref l2, .ref l3, .ref l4, .ref l5, .int (u.2.1 11 2), .int (msk (u.2.2.2 1)), .long (u.1 9 0)])), (n0, .inr (6, [.ref n1, .ref n2, .ref n3, .ref n4, .ref n5, .ref n6, .ref n7, .ref n8, .int (u.2.1 11 0), .int (u.2.1 11 1)]))] sz zX0)) (zQi D [(hm, .inr (7, [.ref p0, .ref c0, .ref n0, .ref b0, .ref e0, .ref f0, .ref l1, .ref l2, .ref l3, .ref l4, .ref l5, .int (u.2.1 11 2), .int (msk (u.2.2.2 1)), .long (u.1 9 0)])), (n0, .inr (6, [.ref n1, .ref n2, .ref n3, .ref n4, .ref n5, .ref n6, .ref n7, .ref n8, .int (u.2.1 11 0), .int (u.2.1 11 1)]))] sz (u.2.1 11 0) (fun w : va_W => w = [(hm, .inr (7, [.ref p0, .ref c0, .ref n0, .ref b0, .ref e0, .ref f0, .ref l1, .ref l2, .ref l3, .ref l4, .ref l5, .int (u.2.1 11 2), .int (msk (u.2.2.2 1)), .long (u.1 9 0)])), (n0, .inr (6, [.ref n1, .ref n2, .ref n3, .ref n4, .ref n5, .ref n6, .ref n7, .ref n8, .int a, .int (u.2.1 11 1)]))])) 0 0 (va_A [(hm, .inr (7, [.ref p0, .ref c0, .ref n0, .ref b0, .ref e0, .ref f0, .ref l1, .ref l2, .ref l3, .ref l4, .ref l5, .int (u.2.1 11 2), .int (msk (u.2.2.2 1)), .long (u.1 9 0)])), (n0, .inr (6, [.ref n1, .ref n2, .ref n3, .ref n4, .ref n5, .ref n6, .ref n7, .ref n8, .int (u.2.1 11 0), .int (u.2.1 11 1)]))] sz) := by
  refine Met.ofW (cc := cX8_setTemperature) (maxL := 2) (ret := (some .int)) (by decide) rfl ?_
  intro p e s m args below meth c s₁ B hml hv
  obtain ⟨rfl, hsz, hP, hK, hD0, hE⟩ := hv
  have hx := B.exec
  have hb := B.bytes
  have hr := B.returns
  have hts := atoms_spec (ws := wsX8_setTemperature) B.pre
  have hown : s.vm.findClass RX8 = some m.cls := findClass_of_methodNamed B.named
  have hlocks := B.notSynchronized
  subst hsz
  have hD := hD0.self (sz := s.heap.size)
  delta zQi zB
  generalize hAe : va_A [(hm, .inr (7, [.ref p0, .ref c0, .ref n0, .ref b0, .ref e0, .ref f0, .ref l1, .ref l2, .ref l3, .ref l4, .ref l5, .int (u.2.1 11 2), .int (msk (u.2.2.2 1)), .long (u.1 9 0)])), (n0, .inr (6, [.ref n1, .ref n2, .ref n3, .ref n4, .ref n5, .ref n6, .ref n7, .ref n8, .int (u.2.1 11 0), .int (u.2.1 11 1)]))] s.heap.size = A at hD hE ⊢
  have hA : ∀ q : Nat, s.heap.size ≤ q → A q := fun q h => by rw [← hAe]; exact Or.inr h
  have hS : va_S A s.heap s.heap [] := va_S.rf
  have hl := lv_entry [.ref hm, .int a] (n := 2) (Nat.le_of_ble_eq_true rfl)
  rw [lg_entry_eq]
  generalize (lg_sl [.ref hm, .int a] ++ List.replicate (2 - (lg_sl [.ref hm, .int a]).length) Slot.unset).toArray = ls at hl ⊢
  have hl : lv_has ls 2 [(0, .ref hm), (1, .int a)] := hl
  have hl26 : (Cond.fieldLink RX8 26 "InertialReference" "sensors" "LInertialReference$Sensors;").before #[Value.ref hm, Value.int a] s = true := zw hts 1 rfl
  have hinX8 : ∀ w ∈ u_ws RX8 TX8 14, w ∈ wsX8_setTemperature := fun w h => List.mem_cons_of_mem _ (List.mem_append_left _ (List.mem_append_right _ h))
  refine lv_iload_n hx hb dX8_setTemperature_0 rfl (lv_at hl 1 rfl) ?_
  refine lv_bipush (v := (-40)) hx hb dX8_setTemperature_1 (by decide) ?_
  refine lv_bipush (v := 85) hx hb dX8_setTemperature_3 (by decide) ?_
  refine z_calli0 (wc := []) (wr := [(hm, .inr (7, [.ref p0, .ref c0, .ref n0, .ref b0, .ref e0, .ref f0, .ref l1, .ref l2, .ref l3, .ref l4, .ref l5, .int (u.2.1 11 2), .int (msk (u.2.2.2 1)), .long (u.1 9 0)])), (n0, .inr (6, [.ref n1, .ref n2, .ref n3, .ref n4, .ref n5, .ref n6, .ref n7, .ref n8, .int (u.2.1 11 0), .int (u.2.1 11 1)]))]) (va_runS (As := [.int a, .int (-40), .int 85]) (rest := []) ⟨hx, hb, hml, hown, hts⟩ (c_X5_isBetween l D k s.heap.size a (-40) 85) (va_cwS 3 hts gX8_setTemperature_X5_isBetween rfl rfl rfl (by decide +kernel) ⟨Nat.le_of_ble_eq_true rfl, Nat.le_of_ble_eq_true rfl⟩) (z_preS (wc := []) hP hD hK [] rfl rfl zb0 zp0) rfl rfl hl.1 rfl (lv_room (Nat.le_of_ble_eq_true rfl)) dX8_setTemperature_5 ⟨Nat.zero_le _, Nat.zero_le _⟩) hP hD hS hA [] [0, 1] rfl rfl rfl (by decide) (fun w H locs hF hP hD hS => ?_)
  subst hF
  have hP : va_P D vwCl [(hm, .inr (7, [.ref p0, .ref c0, .ref n0, .ref b0, .ref e0, .ref f0, .ref l1, .ref l2, .ref l3, .ref l4, .ref l5, .int (u.2.1 11 2), .int (msk (u.2.2.2 1)), .long (u.1 9 0)])), (n0, .inr (6, [.ref n1, .ref n2, .ref n3, .ref n4, .ref n5, .ref n6, .ref n7, .ref n8, .int (u.2.1 11 0), .int (u.2.1 11 1)]))] H := hP
  have hD : va_D A [(hm, .inr (7, [.ref p0, .ref c0, .ref n0, .ref b0, .ref e0, .ref f0, .ref l1, .ref l2, .ref l3, .ref l4, .ref l5, .int (u.2.1 11 2), .int (msk (u.2.2.2 1)), .long (u.1 9 0)])), (n0, .inr (6, [.ref n1, .ref n2, .ref n3, .ref n4, .ref n5, .ref n6, .ref n7, .ref n8, .int (u.2.1 11 0), .int (u.2.1 11 1)]))] := hD
  refine W.eq (g2 := F0 m 8 ls (.int (zb (zin a (-40) 85)) :: [])) (by rw [zIi a (-40) 85 (A := (-40)) (B := 85) (by decide) (by decide)]) ?_
  refine lv_if_ne (tgt := 15) hx hb dX8_setTemperature_8 (by decide) (fun c_1 => ?_) (fun c_1 => ?_)
  · skip
    have c_1 := zb_n c_1
    refine lv_aload_n hx hb dX8_setTemperature_15 rfl (lv_at hl 0 rfl) ?_
    refine va_get (D := D) (ci := 7) (v := .ref n0) (C := RX8) (T := TX8) (N := 14) hx hb hts hinX8 hown hK hP 0 rfl rfl 2 (Nat.le_of_ble_eq_true rfl) hl26 (fun _ h9 => h9) rfl dX8_setTemperature_16 ?_
    refine lv_iload_n hx hb dX8_setTemperature_19 rfl (lv_at hl 1 rfl) ?_
    refine z_calli0 (wc := [(n0, .inr (6, [.ref n1, .ref n2, .ref n3, .ref n4, .ref n5, .ref n6, .ref n7, .ref n8, .int (u.2.1 11 0), .int (u.2.1 11 1)]))]) (wr := [(hm, .inr (7, [.ref p0, .ref c0, .ref n0, .ref b0, .ref e0, .ref f0, .ref l1, .ref l2, .ref l3, .ref l4, .ref l5, .int (u.2.1 11 2), .int (msk (u.2.2.2 1)), .long (u.1 9 0)]))]) (va_runV (As := [.int a]) (rest := []) ⟨hx, hb, hml, hown, hts⟩ (c_X7_changeTemperature l D k H.size n0 n1 n2 n3 n4 n5 n6 n7 n8 (u.2.1 11 0) (u.2.1 11 1) a) (cwV 1 hts gX8_setTemperature_X7_changeTemperature rfl rfl rfl (by decide +kernel) ⟨Nat.le_of_ble_eq_true rfl, Nat.le_of_ble_eq_true rfl⟩) (z_preV (wc := [(n0, .inr (6, [.ref n1, .ref n2, .ref n3, .ref n4, .ref n5, .ref n6, .ref n7, .ref n8, .int (u.2.1 11 0), .int (u.2.1 11 1)]))]) 1 6 hP hD hK [1] rfl rfl rfl rfl zb0 zp0) rfl rfl hl.1 rfl (lv_room (Nat.le_of_ble_eq_true rfl)) dX8_setTemperature_20 ⟨Nat.zero_le _, Nat.zero_le _⟩) hP hD hS hA [1] [0] rfl rfl rfl (by decide) (fun w H locs hF hP hD hS => ?_)
    subst hF
    have hP : va_P D vwCl [(hm, .inr (7, [.ref p0, .ref c0, .ref n0, .ref b0, .ref e0, .ref f0, .ref l1, .ref l2, .ref l3, .ref l4, .ref l5, .int (u.2.1 11 2), .int (msk (u.2.2.2 1)), .long (u.1 9 0)])), (n0, .inr (6, [.ref n1, .ref n2, .ref n3, .ref n4, .ref n5, .ref n6, .ref n7, .ref n8, .int a, .int (u.2.1 11 1)]))] H := hP
    have hD : va_D A [(hm, .inr (7, [.ref p0, .ref c0, .ref n0, .ref b0, .ref e0, .ref f0, .ref l1, .ref l2, .ref l3, .ref l4, .ref l5, .int (u.2.1 11 2), .int (msk (u.2.2.2 1)), .long (u.1 9 0)])), (n0, .inr (6, [.ref n1, .ref n2, .ref n3, .ref n4, .ref n5, .ref n6, .ref n7, .ref n8, .int a, .int (u.2.1 11 1)]))] := hD
    have hP9 := hP.sub (ws' := [(hm, .inr (7, [.ref p0, .ref c0, .ref n0, .ref b0, .ref e0, .ref f0, .ref l1, .ref l2, .ref l3, .ref l4, .ref l5, .int (u.2.1 11 2), .int (msk (u.2.2.2 1)), .long (u.1 9 0)])), (n0, .inr (6, [.ref n1, .ref n2, .ref n3, .ref n4, .ref n5, .ref n6, .ref n7, .ref n8, .int a, .int (u.2.1 11 1)]))]) [0, 1] rfl
    have hD9 := hD.sub (ws' := [(hm, .inr (7, [.ref p0, .ref c0, .ref n0, .ref b0, .ref e0, .ref f0, .ref l1, .ref l2, .ref l3, .ref l4, .ref l5, .int (u.2.1 11 2), .int (msk (u.2.2.2 1)), .long (u.1 9 0)])), (n0, .inr (6, [.ref n1, .ref n2, .ref n3, .ref n4, .ref n5, .ref n6, .ref n7, .ref n8, .int a, .int (u.2.1 11 1)]))]) [0, 1] (by decide) rfl
    exact W.iret (v := (u.2.1 11 0)) hx hb hr (fun t9 ht9 hW9 => ⟨⟨(u.2.1 11 0), [(hm, .inr (7, [.ref p0, .ref c0, .ref n0, .ref b0, .ref e0, .ref f0, .ref l1, .ref l2, .ref l3, .ref l4, .ref l5, .int (u.2.1 11 2), .int (msk (u.2.2.2 1)), .long (u.1 9 0)])), (n0, .inr (6, [.ref n1, .ref n2, .ref n3, .ref n4, .ref n5, .ref n6, .ref n7, .ref n8, .int a, .int (u.2.1 11 1)]))], rfl, ⟨rfl, rfl⟩, by rw [ht9]; exact hP9, hD9⟩, hS.F ht9⟩) hS.2.2 dX8_setTemperature_23
  · skip
    have c_1 := zb_e c_1
    first | exact absurd (c_1.symm.trans h0) (by decide)
set_option maxHeartbeats 4000000 in
set_option maxRecDepth 100000 in
theorem c_X8_setTemperature_no (l : Launch) (D : va_G) (k : Nat → ClassId) (sz : Nat) (hm p0 c0 n0 b0 e0 f0 l1 l2 l3 l4 l5 : Nat) (u : zS) (a : Int32) (hno : zin a (-40) 85 = false) : Met l yX8_setTemperature wsX8_setTemperature ({ frames := 1, cells := 0, slots := 0, locals := 22 } : Room) (va_Pc [.ref hm, .int a] (zPre D k [(hm, .inr (7, [.ref p0, .ref c0, .ref n0, .ref b0, .ref e0, .ref f0, .ref l1, .ref l2, .ref l3, .ref l4, .ref l5, .int (u.2.1 11 2), .int (msk (u.2.2.2 1)), .long (u.1 9 0)]))] sz zX0)) (zQi D [(hm, .inr (7, [.ref p0, .ref c0, .ref n0, .ref b0, .ref e0, .ref f0, .ref l1, .ref l2, .ref l3, .ref l4, .ref l5, .int (u.2.1 11 2), .int (msk (u.2.2.2 1)), .long (u.1 9 0)]))] sz (-1000) (fun w : va_W => w = [(hm, .inr (7, [.ref p0, .ref c0, .ref n0, .ref b0, .ref e0, .ref f0, .ref l1, .ref l2, .ref l3, .ref l4, .ref l5, .int (u.2.1 11 2), .int (msk (u.2.2.2 1)), .long (u.1 9 0)]))])) 0 0 (va_A [(hm, .inr (7, [.ref p0, .ref c0, .ref n0, .ref b0, .ref e0, .ref f0, .ref l1, .ref l2, .ref l3, .ref l4, .ref l5, .int (u.2.1 11 2), .int (msk (u.2.2.2 1)), .long (u.1 9 0)]))] sz) := by
  refine Met.ofW (cc := cX8_setTemperature) (maxL := 2) (ret := (some .int)) (by decide) rfl ?_
  intro p e s m args below meth c s₁ B hml hv
  obtain ⟨rfl, hsz, hP, hK, hD0, hE⟩ := hv
  have hx := B.exec
  have hb := B.bytes
  have hr := B.returns
  have hts := atoms_spec (ws := wsX8_setTemperature) B.pre
  have hown : s.vm.findClass RX8 = some m.cls := findClass_of_methodNamed B.named
  have hlocks := B.notSynchronized
  subst hsz
  have hD := hD0.self (sz := s.heap.size)
  delta zQi zB
  generalize hAe : va_A [(hm, .inr (7, [.ref p0, .ref c0, .ref n0, .ref b0, .ref e0, .ref f0, .ref l1, .ref l2, .ref l3, .ref l4, .ref l5, .int (u.2.1 11 2), .int (msk (u.2.2.2 1)), .long (u.1 9 0)]))] s.heap.size = A at hD hE ⊢
  have hA : ∀ q : Nat, s.heap.size ≤ q → A q := fun q h => by rw [← hAe]; exact Or.inr h
  have hS : va_S A s.heap s.heap [] := va_S.rf
  have hl := lv_entry [.ref hm, .int a] (n := 2) (Nat.le_of_ble_eq_true rfl)
  rw [lg_entry_eq]
  generalize (lg_sl [.ref hm, .int a] ++ List.replicate (2 - (lg_sl [.ref hm, .int a]).length) Slot.unset).toArray = ls at hl ⊢
  have hl : lv_has ls 2 [(0, .ref hm), (1, .int a)] := hl
  refine lv_iload_n hx hb dX8_setTemperature_0 rfl (lv_at hl 1 rfl) ?_
  refine lv_bipush (v := (-40)) hx hb dX8_setTemperature_1 (by decide) ?_
  refine lv_bipush (v := 85) hx hb dX8_setTemperature_3 (by decide) ?_
  refine z_calli0 (wc := []) (wr := [(hm, .inr (7, [.ref p0, .ref c0, .ref n0, .ref b0, .ref e0, .ref f0, .ref l1, .ref l2, .ref l3, .ref l4, .ref l5, .int (u.2.1 11 2), .int (msk (u.2.2.2 1)), .long (u.1 9 0)]))]) (va_runS (As := [.int a, .int (-40), .int 85]) (rest := []) ⟨hx, hb, hml, hown, hts⟩ (c_X5_isBetween l D k s.heap.size a (-40) 85) (va_cwS 3 hts gX8_setTemperature_X5_isBetween rfl rfl rfl (by decide +kernel) ⟨Nat.le_of_ble_eq_true rfl, Nat.le_of_ble_eq_true rfl⟩) (z_preS (wc := []) hP hD hK [] rfl rfl zb0 zp0) rfl rfl hl.1 rfl (lv_room (Nat.le_of_ble_eq_true rfl)) dX8_setTemperature_5 ⟨Nat.zero_le _, Nat.zero_le _⟩) hP hD hS hA [] [0] rfl rfl rfl (by decide) (fun w H locs hF hP hD hS => ?_)
  subst hF
  have hP : va_P D vwCl [(hm, .inr (7, [.ref p0, .ref c0, .ref n0, .ref b0, .ref e0, .ref f0, .ref l1, .ref l2, .ref l3, .ref l4, .ref l5, .int (u.2.1 11 2), .int (msk (u.2.2.2 1)), .long (u.1 9 0)]))] H := hP
  have hD : va_D A [(hm, .inr (7, [.ref p0, .ref c0, .ref n0, .ref b0, .ref e0, .ref f0, .ref l1, .ref l2, .ref l3, .ref l4, .ref l5, .int (u.2.1 11 2), .int (msk (u.2.2.2 1)), .long (u.1 9 0)]))] := hD
  refine W.eq (g2 := F0 m 8 ls (.int (zb (zin a (-40) 85)) :: [])) (by rw [zIi a (-40) 85 (A := (-40)) (B := 85) (by decide) (by decide)]) ?_
  refine lv_if_ne (tgt := 15) hx hb dX8_setTemperature_8 (by decide) (fun c_1 => ?_) (fun c_1 => ?_)
  · skip
    have c_1 := zb_n c_1
    rw [c_1] at hno; exact absurd hno (by decide)
  · skip
    have c_1 := zb_e c_1
    refine lv_sipush (v := (-1000)) hx hb dX8_setTemperature_11 (by decide) ?_
    have hP9 := hP.sub (ws' := [(hm, .inr (7, [.ref p0, .ref c0, .ref n0, .ref b0, .ref e0, .ref f0, .ref l1, .ref l2, .ref l3, .ref l4, .ref l5, .int (u.2.1 11 2), .int (msk (u.2.2.2 1)), .long (u.1 9 0)]))]) [0] rfl
    have hD9 := hD.sub (ws' := [(hm, .inr (7, [.ref p0, .ref c0, .ref n0, .ref b0, .ref e0, .ref f0, .ref l1, .ref l2, .ref l3, .ref l4, .ref l5, .int (u.2.1 11 2), .int (msk (u.2.2.2 1)), .long (u.1 9 0)]))]) [0] (by decide) rfl
    exact W.iret (v := (-1000)) hx hb hr (fun t9 ht9 hW9 => ⟨⟨(-1000), [(hm, .inr (7, [.ref p0, .ref c0, .ref n0, .ref b0, .ref e0, .ref f0, .ref l1, .ref l2, .ref l3, .ref l4, .ref l5, .int (u.2.1 11 2), .int (msk (u.2.2.2 1)), .long (u.1 9 0)]))], rfl, ⟨rfl, rfl⟩, by rw [ht9]; exact hP9, hD9⟩, hS.F ht9⟩) hS.2.2 dX8_setTemperature_14
set_option maxHeartbeats 4000000 in
set_option maxRecDepth 100000 in
theorem c_X8_setSeed (l : Launch) (D : va_G) (k : Nat → ClassId) (sz : Nat) (hm p0 c0 n0 n1 n2 n3 n4 n5 n6 n7 n8 b0 e0 f0 l1 l2 l3 l4 l5 : Nat) (u : zS) (a : Int32) : Met l yX8_setSeed wsX8_setSeed ({ frames := 1, cells := 0, slots := 0, locals := 22 } : Room) (va_Pc [.ref hm, .int a] (zPre D k [(hm, .inr (7, [.ref p0, .ref c0, .ref n0, .ref b0, .ref e0, .ref f0, .ref l1, .ref l2, .ref l3, .ref l4, .ref l5, .int (u.2.1 11 2), .int (msk (u.2.2.2 1)), .long (u.1 9 0)])), (n0, .inr (6, [.ref n1, .ref n2, .ref n3, .ref n4, .ref n5, .ref n6, .ref n7, .ref n8, .int (u.2.1 11 0), .int (u.2.1 11 1)]))] sz zX0)) (zQi D [(hm, .inr (7, [.ref p0, .ref c0, .ref n0, .ref b0, .ref e0, .ref f0, .ref l1, .ref l2, .ref l3, .ref l4, .ref l5, .int (u.2.1 11 2), .int (msk (u.2.2.2 1)), .long (u.1 9 0)])), (n0, .inr (6, [.ref n1, .ref n2, .ref n3, .ref n4, .ref n5, .ref n6, .ref n7, .ref n8, .int (u.2.1 11 0), .int (u.2.1 11 1)]))] sz (u.2.1 11 1) (fun w : va_W => w = [(hm, .inr (7, [.ref p0, .ref c0, .ref n0, .ref b0, .ref e0, .ref f0, .ref l1, .ref l2, .ref l3, .ref l4, .ref l5, .int (u.2.1 11 2), .int (msk (u.2.2.2 1)), .long (u.1 9 0)])), (n0, .inr (6, [.ref n1, .ref n2, .ref n3, .ref n4, .ref n5, .ref n6, .ref n7, .ref n8, .int (u.2.1 11 0), .int a]))])) 0 0 (va_A [(hm, .inr (7, [.ref p0, .ref c0, .ref n0, .ref b0, .ref e0, .ref f0, .ref l1, .ref l2, .ref l3, .ref l4, .ref l5, .int (u.2.1 11 2), .int (msk (u.2.2.2 1)), .long (u.1 9 0)])), (n0, .inr (6, [.ref n1, .ref n2, .ref n3, .ref n4, .ref n5, .ref n6, .ref n7, .ref n8, .int (u.2.1 11 0), .int (u.2.1 11 1)]))] sz) := by
  refine Met.ofW (cc := cX8_setSeed) (maxL := 2) (ret := (some .int)) (by decide) rfl ?_
  intro p e s m args below meth c s₁ B hml hv
  obtain ⟨rfl, hsz, hP, hK, hD0, hE⟩ := hv
  have hx := B.exec
  have hb := B.bytes
  have hr := B.returns
  have hts := atoms_spec (ws := wsX8_setSeed) B.pre
  have hown : s.vm.findClass RX8 = some m.cls := findClass_of_methodNamed B.named
  have hlocks := B.notSynchronized
  subst hsz
  have hD := hD0.self (sz := s.heap.size)
  delta zQi zB
  generalize hAe : va_A [(hm, .inr (7, [.ref p0, .ref c0, .ref n0, .ref b0, .ref e0, .ref f0, .ref l1, .ref l2, .ref l3, .ref l4, .ref l5, .int (u.2.1 11 2), .int (msk (u.2.2.2 1)), .long (u.1 9 0)])), (n0, .inr (6, [.ref n1, .ref n2, .ref n3, .ref n4, .ref n5, .ref n6, .ref n7, .ref n8, .int (u.2.1 11 0), .int (u.2.1 11 1)]))] s.heap.size = A at hD hE ⊢
  have hA : ∀ q : Nat, s.heap.size ≤ q → A q := fun q h => by rw [← hAe]; exact Or.inr h
  have hS : va_S A s.heap s.heap [] := va_S.rf
  have hl := lv_entry [.ref hm, .int a] (n := 2) (Nat.le_of_ble_eq_true rfl)
  rw [lg_entry_eq]
  generalize (lg_sl [.ref hm, .int a] ++ List.replicate (2 - (lg_sl [.ref hm, .int a]).length) Slot.unset).toArray = ls at hl ⊢
  have hl : lv_has ls 2 [(0, .ref hm), (1, .int a)] := hl
  have hl26 : (Cond.fieldLink RX8 26 "InertialReference" "sensors" "LInertialReference$Sensors;").before #[Value.ref hm, Value.int a] s = true := zw hts 1 rfl
  have hinX8 : ∀ w ∈ u_ws RX8 TX8 14, w ∈ wsX8_setSeed := fun w h => List.mem_cons_of_mem _ (List.mem_append_left _ (List.mem_append_right _ h))
  refine lv_aload_n hx hb dX8_setSeed_0 rfl (lv_at hl 0 rfl) ?_
  refine va_get (D := D) (ci := 7) (v := .ref n0) (C := RX8) (T := TX8) (N := 14) hx hb hts hinX8 hown hK hP 0 rfl rfl 2 (Nat.le_of_ble_eq_true rfl) hl26 (fun _ h9 => h9) rfl dX8_setSeed_1 ?_
  refine lv_iload_n hx hb dX8_setSeed_4 rfl (lv_at hl 1 rfl) ?_
  refine z_calli0 (wc := [(n0, .inr (6, [.ref n1, .ref n2, .ref n3, .ref n4, .ref n5, .ref n6, .ref n7, .ref n8, .int (u.2.1 11 0), .int (u.2.1 11 1)]))]) (wr := [(hm, .inr (7, [.ref p0, .ref c0, .ref n0, .ref b0, .ref e0, .ref f0, .ref l1, .ref l2, .ref l3, .ref l4, .ref l5, .int (u.2.1 11 2), .int (msk (u.2.2.2 1)), .long (u.1 9 0)]))]) (va_runV (As := [.int a]) (rest := []) ⟨hx, hb, hml, hown, hts⟩ (c_X7_changeSeed l D k s.heap.size n0 n1 n2 n3 n4 n5 n6 n7 n8 (u.2.1 11 0) (u.2.1 11 1) a) (cwV 1 hts gX8_setSeed_X7_changeSeed rfl rfl rfl (by decide +kernel) ⟨Nat.le_of_ble_eq_true rfl, Nat.le_of_ble_eq_true rfl⟩) (z_preV (wc := [(n0, .inr (6, [.ref n1, .ref n2, .ref n3, .ref n4, .ref n5, .ref n6, .ref n7, .ref n8, .int (u.2.1 11 0), .int (u.2.1 11 1)]))]) 1 6 hP hD hK [1] rfl rfl rfl rfl zb0 zp0) rfl rfl hl.1 rfl (lv_room (Nat.le_of_ble_eq_true rfl)) dX8_setSeed_5 ⟨Nat.zero_le _, Nat.zero_le _⟩) hP hD hS hA [1] [0] rfl rfl rfl (by decide) (fun w H locs hF hP hD hS => ?_)
  subst hF
  have hP : va_P D vwCl [(hm, .inr (7, [.ref p0, .ref c0, .ref n0, .ref b0, .ref e0, .ref f0, .ref l1, .ref l2, .ref l3, .ref l4, .ref l5, .int (u.2.1 11 2), .int (msk (u.2.2.2 1)), .long (u.1 9 0)])), (n0, .inr (6, [.ref n1, .ref n2, .ref n3, .ref n4, .ref n5, .ref n6, .ref n7, .ref n8, .int (u.2.1 11 0), .int a]))] H := hP
  have hD : va_D A [(hm, .inr (7, [.ref p0, .ref c0, .ref n0, .ref b0, .ref e0, .ref f0, .ref l1, .ref l2, .ref l3, .ref l4, .ref l5, .int (u.2.1 11 2), .int (msk (u.2.2.2 1)), .long (u.1 9 0)])), (n0, .inr (6, [.ref n1, .ref n2, .ref n3, .ref n4, .ref n5, .ref n6, .ref n7, .ref n8, .int (u.2.1 11 0), .int a]))] := hD
  have hP9 := hP.sub (ws' := [(hm, .inr (7, [.ref p0, .ref c0, .ref n0, .ref b0, .ref e0, .ref f0, .ref l1, .ref l2, .ref l3, .ref l4, .ref l5, .int (u.2.1 11 2), .int (msk (u.2.2.2 1)), .long (u.1 9 0)])), (n0, .inr (6, [.ref n1, .ref n2, .ref n3, .ref n4, .ref n5, .ref n6, .ref n7, .ref n8, .int (u.2.1 11 0), .int a]))]) [0, 1] rfl
  have hD9 := hD.sub (ws' := [(hm, .inr (7, [.ref p0, .ref c0, .ref n0, .ref b0, .ref e0, .ref f0, .ref l1, .ref l2, .ref l3, .ref l4, .ref l5, .int (u.2.1 11 2), .int (msk (u.2.2.2 1)), .long (u.1 9 0)])), (n0, .inr (6, [.ref n1, .ref n2, .ref n3, .ref n4, .ref n5, .ref n6, .ref n7, .ref n8, .int (u.2.1 11 0), .int a]))]) [0, 1] (by decide) rfl
  exact W.iret (v := (u.2.1 11 1)) hx hb hr (fun t9 ht9 hW9 => ⟨⟨(u.2.1 11 1), [(hm, .inr (7, [.ref p0, .ref c0, .ref n0, .ref b0, .ref e0, .ref f0, .ref l1, .ref l2, .ref l3, .ref l4, .ref l5, .int (u.2.1 11 2), .int (msk (u.2.2.2 1)), .long (u.1 9 0)])), (n0, .inr (6, [.ref n1, .ref n2, .ref n3, .ref n4, .ref n5, .ref n6, .ref n7, .ref n8, .int (u.2.1 11 0), .int a]))], rfl, ⟨rfl, rfl⟩, by rw [ht9]; exact hP9, hD9⟩, hS.F ht9⟩) hS.2.2 dX8_setSeed_8
set_option maxHeartbeats 4000000 in
set_option maxRecDepth 100000 in
theorem c_X8_isTurn (l : Launch) (D : va_G) (k : Nat → ClassId) (sz : Nat) (x y z : Int32) : Met l yX8_isTurn wsX8_isTurn ({ frames := 1, cells := 0, slots := 0, locals := 23 } : Room) (va_Pc [.int x, .int y, .int z] (zPre D k [] sz zX0)) (zQi D [] sz (zb (zin x (-4000000) 4000000 && (zin y (-4000000) 4000000 && zin z (-4000000) 4000000))) (fun w : va_W => w = [])) 0 0 (va_A [] sz) := by
  refine Met.ofW (cc := cX8_isTurn) (maxL := 3) (ret := (some .boolean)) (by decide) rfl ?_
  intro p e s m args below meth c s₁ B hml hv
  obtain ⟨rfl, hsz, hP, hK, hD0, hE⟩ := hv
  have hx := B.exec
  have hb := B.bytes
  have hr := B.returns
  have hts := atoms_spec (ws := wsX8_isTurn) B.pre
  have hown : s.vm.findClass RX8 = some m.cls := findClass_of_methodNamed B.named
  have hlocks := B.notSynchronized
  subst hsz
  have hD := hD0.self (sz := s.heap.size)
  delta zQi zB
  generalize hAe : va_A [] s.heap.size = A at hD hE ⊢
  have hA : ∀ q : Nat, s.heap.size ≤ q → A q := fun q h => by rw [← hAe]; exact Or.inr h
  have hS : va_S A s.heap s.heap [] := va_S.rf
  have hl := lv_entry [.int x, .int y, .int z] (n := 3) (Nat.le_of_ble_eq_true rfl)
  rw [lg_entry_eq]
  generalize (lg_sl [.int x, .int y, .int z] ++ List.replicate (3 - (lg_sl [.int x, .int y, .int z]).length) Slot.unset).toArray = ls at hl ⊢
  have hl : lv_has ls 3 [(0, .int x), (1, .int y), (2, .int z)] := hl
  have hl280 : (Cond.constantLong RX8 280 (4000000)).before #[Value.int x, Value.int y, Value.int z] s = true := zw hts 1 rfl
  refine lv_iload_n hx hb dX8_isTurn_0 rfl (lv_at hl 0 rfl) ?_
  refine lv_i2l (v := x.toInt64) hx hb dX8_isTurn_1 rfl ?_
  refine lv_ldc2 hx hb hown hl280 dX8_isTurn_2 ?_
  refine z_calli0 (wc := []) (wr := []) (va_runS (As := [.long x.toInt64, .long 4000000]) (rest := []) ⟨hx, hb, hml, hown, hts⟩ (c_X5_isWithin l D k s.heap.size x.toInt64 4000000) (va_cwS 2 hts gX8_isTurn_X5_isWithin rfl rfl rfl (by decide +kernel) ⟨Nat.le_of_ble_eq_true rfl, Nat.le_of_ble_eq_true rfl⟩) (z_preS (wc := []) hP hD hK [] rfl rfl zb0 zp0) rfl rfl hl.1 rfl (lv_room (Nat.le_of_ble_eq_true rfl)) dX8_isTurn_5 ⟨Nat.zero_le _, Nat.zero_le _⟩) hP hD hS hA [] [] rfl rfl rfl (by decide) (fun w H locs hF hP hD hS => ?_)
  subst hF
  refine W.eq (g2 := F0 m 8 ls (.int (zb (zin x (-4000000) 4000000)) :: [])) (by rw [zLi x (-4000000) 4000000 (A := (-4000000)) (B := 4000000) (by decide) (by decide)]) ?_
  refine lv_if_eq (tgt := 37) hx hb dX8_isTurn_8 (by decide) (fun c_1 => ?_) (fun c_1 => ?_)
  · skip
    have c_1 := zb_e c_1
    refine lv_iconst (v := 0) hx hb dX8_isTurn_37 (by decide) ?_
    have hP9 := hP.sub (ws' := []) [] rfl
    have hD9 := hD.sub (ws' := []) [] (by decide) rfl
    exact W.zret (v := 0) hx hb hr rfl (fun t9 ht9 hW9 => ⟨⟨0, [], rfl, ⟨by (rw [c_1]; first | rfl | (simp; rfl)), rfl⟩, by rw [ht9]; exact hP9, hD9⟩, hS.F ht9⟩) hS.2.2 dX8_isTurn_38
  · skip
    have c_1 := zb_n c_1
    refine lv_iload_n hx hb dX8_isTurn_11 rfl (lv_at hl 1 rfl) ?_
    refine lv_i2l (v := y.toInt64) hx hb dX8_isTurn_12 rfl ?_
    refine lv_ldc2 hx hb hown hl280 dX8_isTurn_13 ?_
    refine z_calli0 (wc := []) (wr := []) (va_runS (As := [.long y.toInt64, .long 4000000]) (rest := []) ⟨hx, hb, hml, hown, hts⟩ (c_X5_isWithin l D k H.size y.toInt64 4000000) (va_cwS 2 hts gX8_isTurn_X5_isWithin rfl rfl rfl (by decide +kernel) ⟨Nat.le_of_ble_eq_true rfl, Nat.le_of_ble_eq_true rfl⟩) (z_preS (wc := []) hP hD hK [] rfl rfl zb0 zp0) rfl rfl hl.1 rfl (lv_room (Nat.le_of_ble_eq_true rfl)) dX8_isTurn_16 ⟨Nat.zero_le _, Nat.zero_le _⟩) hP hD hS hA [] [] rfl rfl rfl (by decide) (fun w H locs hF hP hD hS => ?_)
    subst hF
    refine W.eq (g2 := F0 m 19 ls (.int (zb (zin y (-4000000) 4000000)) :: [])) (by rw [zLi y (-4000000) 4000000 (A := (-4000000)) (B := 4000000) (by decide) (by decide)]) ?_
    refine lv_if_eq (tgt := 37) hx hb dX8_isTurn_19 (by decide) (fun c_2 => ?_) (fun c_2 => ?_)
    · skip
      have c_2 := zb_e c_2
      refine lv_iconst (v := 0) hx hb dX8_isTurn_37 (by decide) ?_
      have hP9 := hP.sub (ws' := []) [] rfl
      have hD9 := hD.sub (ws' := []) [] (by decide) rfl
      exact W.zret (v := 0) hx hb hr rfl (fun t9 ht9 hW9 => ⟨⟨0, [], rfl, ⟨by (rw [c_1, c_2]; first | rfl | (simp; rfl)), rfl⟩, by rw [ht9]; exact hP9, hD9⟩, hS.F ht9⟩) hS.2.2 dX8_isTurn_38
    · skip
      have c_2 := zb_n c_2
      refine lv_iload_n hx hb dX8_isTurn_22 rfl (lv_at hl 2 rfl) ?_
      refine lv_i2l (v := z.toInt64) hx hb dX8_isTurn_23 rfl ?_
      refine lv_ldc2 hx hb hown hl280 dX8_isTurn_24 ?_
      refine z_calli0 (wc := []) (wr := []) (va_runS (As := [.long z.toInt64, .long 4000000]) (rest := []) ⟨hx, hb, hml, hown, hts⟩ (c_X5_isWithin l D k H.size z.toInt64 4000000) (va_cwS 2 hts gX8_isTurn_X5_isWithin rfl rfl rfl (by decide +kernel) ⟨Nat.le_of_ble_eq_true rfl, Nat.le_of_ble_eq_true rfl⟩) (z_preS (wc := []) hP hD hK [] rfl rfl zb0 zp0) rfl rfl hl.1 rfl (lv_room (Nat.le_of_ble_eq_true rfl)) dX8_isTurn_27 ⟨Nat.zero_le _, Nat.zero_le _⟩) hP hD hS hA [] [] rfl rfl rfl (by decide) (fun w H locs hF hP hD hS => ?_)
      subst hF
      refine W.eq (g2 := F0 m 30 ls (.int (zb (zin z (-4000000) 4000000)) :: [])) (by rw [zLi z (-4000000) 4000000 (A := (-4000000)) (B := 4000000) (by decide) (by decide)]) ?_
      refine lv_if_eq (tgt := 37) hx hb dX8_isTurn_30 (by decide) (fun c_3 => ?_) (fun c_3 => ?_)
      · skip
        have c_3 := zb_e c_3
        refine lv_iconst (v := 0) hx hb dX8_isTurn_37 (by decide) ?_
        have hP9 := hP.sub (ws' := []) [] rfl
        have hD9 := hD.sub (ws' := []) [] (by decide) rfl
        exact W.zret (v := 0) hx hb hr rfl (fun t9 ht9 hW9 => ⟨⟨0, [], rfl, ⟨by (rw [c_1, c_2, c_3]; first | rfl | (simp; rfl)), rfl⟩, by rw [ht9]; exact hP9, hD9⟩, hS.F ht9⟩) hS.2.2 dX8_isTurn_38
      · skip
        have c_3 := zb_n c_3
        refine lv_iconst (v := 1) hx hb dX8_isTurn_33 (by decide) ?_
        refine lv_goto (tgt := 38) hx hb dX8_isTurn_34 (by decide) ?_
        have hP9 := hP.sub (ws' := []) [] rfl
        have hD9 := hD.sub (ws' := []) [] (by decide) rfl
        exact W.zret (v := 1) hx hb hr rfl (fun t9 ht9 hW9 => ⟨⟨1, [], rfl, ⟨by (rw [c_1, c_2, c_3]; rfl), rfl⟩, by rw [ht9]; exact hP9, hD9⟩, hS.F ht9⟩) hS.2.2 dX8_isTurn_38
set_option maxHeartbeats 4000000 in
set_option maxRecDepth 100000 in
theorem c_X8_isUnitVector (l : Launch) (D : va_G) (k : Nat → ClassId) (sz : Nat) (x y z : Int32) : Met l yX8_isUnitVector wsX8_isUnitVector ({ frames := 1, cells := 0, slots := 0, locals := 23 } : Room) (va_Pc [.int x, .int y, .int z] (zPre D k [] sz zX0)) (zQi D [] sz (zb (zin x (-268435456) 268435456 && (zin y (-268435456) 268435456 && zin z (-268435456) 268435456))) (fun w : va_W => w = [])) 0 0 (va_A [] sz) := by
  refine Met.ofW (cc := cX8_isUnitVector) (maxL := 3) (ret := (some .boolean)) (by decide) rfl ?_
  intro p e s m args below meth c s₁ B hml hv
  obtain ⟨rfl, hsz, hP, hK, hD0, hE⟩ := hv
  have hx := B.exec
  have hb := B.bytes
  have hr := B.returns
  have hts := atoms_spec (ws := wsX8_isUnitVector) B.pre
  have hown : s.vm.findClass RX8 = some m.cls := findClass_of_methodNamed B.named
  have hlocks := B.notSynchronized
  subst hsz
  have hD := hD0.self (sz := s.heap.size)
  delta zQi zB
  generalize hAe : va_A [] s.heap.size = A at hD hE ⊢
  have hA : ∀ q : Nat, s.heap.size ≤ q → A q := fun q h => by rw [← hAe]; exact Or.inr h
  have hS : va_S A s.heap s.heap [] := va_S.rf
  have hl := lv_entry [.int x, .int y, .int z] (n := 3) (Nat.le_of_ble_eq_true rfl)
  rw [lg_entry_eq]
  generalize (lg_sl [.int x, .int y, .int z] ++ List.replicate (3 - (lg_sl [.int x, .int y, .int z]).length) Slot.unset).toArray = ls at hl ⊢
  have hl : lv_has ls 3 [(0, .int x), (1, .int y), (2, .int z)] := hl
  have hl282 : (Cond.constantLong RX8 282 (268435456)).before #[Value.int x, Value.int y, Value.int z] s = true := zw hts 1 rfl
  refine lv_iload_n hx hb dX8_isUnitVector_0 rfl (lv_at hl 0 rfl) ?_
  refine lv_i2l (v := x.toInt64) hx hb dX8_isUnitVector_1 rfl ?_
  refine lv_ldc2 hx hb hown hl282 dX8_isUnitVector_2 ?_
  refine z_calli0 (wc := []) (wr := []) (va_runS (As := [.long x.toInt64, .long 268435456]) (rest := []) ⟨hx, hb, hml, hown, hts⟩ (c_X5_isWithin l D k s.heap.size x.toInt64 268435456) (va_cwS 2 hts gX8_isUnitVector_X5_isWithin rfl rfl rfl (by decide +kernel) ⟨Nat.le_of_ble_eq_true rfl, Nat.le_of_ble_eq_true rfl⟩) (z_preS (wc := []) hP hD hK [] rfl rfl zb0 zp0) rfl rfl hl.1 rfl (lv_room (Nat.le_of_ble_eq_true rfl)) dX8_isUnitVector_5 ⟨Nat.zero_le _, Nat.zero_le _⟩) hP hD hS hA [] [] rfl rfl rfl (by decide) (fun w H locs hF hP hD hS => ?_)
  subst hF
  refine W.eq (g2 := F0 m 8 ls (.int (zb (zin x (-268435456) 268435456)) :: [])) (by rw [zLi x (-268435456) 268435456 (A := (-268435456)) (B := 268435456) (by decide) (by decide)]) ?_
  refine lv_if_eq (tgt := 37) hx hb dX8_isUnitVector_8 (by decide) (fun c_1 => ?_) (fun c_1 => ?_)
  · skip
    have c_1 := zb_e c_1
    refine lv_iconst (v := 0) hx hb dX8_isUnitVector_37 (by decide) ?_
    have hP9 := hP.sub (ws' := []) [] rfl
    have hD9 := hD.sub (ws' := []) [] (by decide) rfl
    exact W.zret (v := 0) hx hb hr rfl (fun t9 ht9 hW9 => ⟨⟨0, [], rfl, ⟨by (rw [c_1]; first | rfl | (simp; rfl)), rfl⟩, by rw [ht9]; exact hP9, hD9⟩, hS.F ht9⟩) hS.2.2 dX8_isUnitVector_38
  · skip
    have c_1 := zb_n c_1
    refine lv_iload_n hx hb dX8_isUnitVector_11 rfl (lv_at hl 1 rfl) ?_
    refine lv_i2l (v := y.toInt64) hx hb dX8_isUnitVector_12 rfl ?_
    refine lv_ldc2 hx hb hown hl282 dX8_isUnitVector_13 ?_
    refine z_calli0 (wc := []) (wr := []) (va_runS (As := [.long y.toInt64, .long 268435456]) (rest := []) ⟨hx, hb, hml, hown, hts⟩ (c_X5_isWithin l D k H.size y.toInt64 268435456) (va_cwS 2 hts gX8_isUnitVector_X5_isWithin rfl rfl rfl (by decide +kernel) ⟨Nat.le_of_ble_eq_true rfl, Nat.le_of_ble_eq_true rfl⟩) (z_preS (wc := []) hP hD hK [] rfl rfl zb0 zp0) rfl rfl hl.1 rfl (lv_room (Nat.le_of_ble_eq_true rfl)) dX8_isUnitVector_16 ⟨Nat.zero_le _, Nat.zero_le _⟩) hP hD hS hA [] [] rfl rfl rfl (by decide) (fun w H locs hF hP hD hS => ?_)
    subst hF
    refine W.eq (g2 := F0 m 19 ls (.int (zb (zin y (-268435456) 268435456)) :: [])) (by rw [zLi y (-268435456) 268435456 (A := (-268435456)) (B := 268435456) (by decide) (by decide)]) ?_
    refine lv_if_eq (tgt := 37) hx hb dX8_isUnitVector_19 (by decide) (fun c_2 => ?_) (fun c_2 => ?_)
    · skip
      have c_2 := zb_e c_2
      refine lv_iconst (v := 0) hx hb dX8_isUnitVector_37 (by decide) ?_
      have hP9 := hP.sub (ws' := []) [] rfl
      have hD9 := hD.sub (ws' := []) [] (by decide) rfl
      exact W.zret (v := 0) hx hb hr rfl (fun t9 ht9 hW9 => ⟨⟨0, [], rfl, ⟨by (rw [c_1, c_2]; first | rfl | (simp; rfl)), rfl⟩, by rw [ht9]; exact hP9, hD9⟩, hS.F ht9⟩) hS.2.2 dX8_isUnitVector_38
    · skip
      have c_2 := zb_n c_2
      refine lv_iload_n hx hb dX8_isUnitVector_22 rfl (lv_at hl 2 rfl) ?_
      refine lv_i2l (v := z.toInt64) hx hb dX8_isUnitVector_23 rfl ?_
      refine lv_ldc2 hx hb hown hl282 dX8_isUnitVector_24 ?_
      refine z_calli0 (wc := []) (wr := []) (va_runS (As := [.long z.toInt64, .long 268435456]) (rest := []) ⟨hx, hb, hml, hown, hts⟩ (c_X5_isWithin l D k H.size z.toInt64 268435456) (va_cwS 2 hts gX8_isUnitVector_X5_isWithin rfl rfl rfl (by decide +kernel) ⟨Nat.le_of_ble_eq_true rfl, Nat.le_of_ble_eq_true rfl⟩) (z_preS (wc := []) hP hD hK [] rfl rfl zb0 zp0) rfl rfl hl.1 rfl (lv_room (Nat.le_of_ble_eq_true rfl)) dX8_isUnitVector_27 ⟨Nat.zero_le _, Nat.zero_le _⟩) hP hD hS hA [] [] rfl rfl rfl (by decide) (fun w H locs hF hP hD hS => ?_)
      subst hF
      refine W.eq (g2 := F0 m 30 ls (.int (zb (zin z (-268435456) 268435456)) :: [])) (by rw [zLi z (-268435456) 268435456 (A := (-268435456)) (B := 268435456) (by decide) (by decide)]) ?_
      refine lv_if_eq (tgt := 37) hx hb dX8_isUnitVector_30 (by decide) (fun c_3 => ?_) (fun c_3 => ?_)
      · skip
        have c_3 := zb_e c_3
        refine lv_iconst (v := 0) hx hb dX8_isUnitVector_37 (by decide) ?_
        have hP9 := hP.sub (ws' := []) [] rfl
        have hD9 := hD.sub (ws' := []) [] (by decide) rfl
        exact W.zret (v := 0) hx hb hr rfl (fun t9 ht9 hW9 => ⟨⟨0, [], rfl, ⟨by (rw [c_1, c_2, c_3]; first | rfl | (simp; rfl)), rfl⟩, by rw [ht9]; exact hP9, hD9⟩, hS.F ht9⟩) hS.2.2 dX8_isUnitVector_38
      · skip
        have c_3 := zb_n c_3
        refine lv_iconst (v := 1) hx hb dX8_isUnitVector_33 (by decide) ?_
        refine lv_goto (tgt := 38) hx hb dX8_isUnitVector_34 (by decide) ?_
        have hP9 := hP.sub (ws' := []) [] rfl
        have hD9 := hD.sub (ws' := []) [] (by decide) rfl
        exact W.zret (v := 1) hx hb hr rfl (fun t9 ht9 hW9 => ⟨⟨1, [], rfl, ⟨by (rw [c_1, c_2, c_3]; rfl), rfl⟩, by rw [ht9]; exact hP9, hD9⟩, hS.F ht9⟩) hS.2.2 dX8_isUnitVector_38
set_option maxHeartbeats 4000000 in
set_option maxRecDepth 100000 in
theorem c_X8_addSegment_ok (l : Launch) (D : va_G) (k : Nat → ClassId) (sz : Nat) (hm p0 c0 c1 c2 c3 c4 n0 b0 e0 f0 l1 l2 l3 l4 l5 : Nat) (u : zS) (a x y z : Int32) (h0 : zin a 1 1000 = true) (h1 : ((zin x (-4000000) 4000000 && (zin y (-4000000) 4000000 && zin z (-4000000) 4000000))) = true) (hn : u.2.2.1 0 < 20) : Met l yX8_addSegment wsX8_addSegment ({ frames := 2, cells := 0, slots := 0, locals := 45 } : Room) (va_Pc [.ref hm, .int a, .int x, .int y, .int z] (zPre D k [(hm, .inr (7, [.ref p0, .ref c0, .ref n0, .ref b0, .ref e0, .ref f0, .ref l1, .ref l2, .ref l3, .ref l4, .ref l5, .int (u.2.1 11 2), .int (msk (u.2.2.2 1)), .long (u.1 9 0)])), (c0, .inr (5, [.ref c1, .ref c2, .ref c3, .ref c4, .int (nI (u.2.2.1 0))])), (c1, zaI k 20 (u.2.1 5)), (c2, zaI k 20 (u.2.1 6)), (c3, zaI k 20 (u.2.1 7)), (c4, zaI k 20 (u.2.1 8))] sz zX0)) (zQi D [(hm, .inr (7, [.ref p0, .ref c0, .ref n0, .ref b0, .ref e0, .ref f0, .ref l1, .ref l2, .ref l3, .ref l4, .ref l5, .int (u.2.1 11 2), .int (msk (u.2.2.2 1)), .long (u.1 9 0)])), (c0, .inr (5, [.ref c1, .ref c2, .ref c3, .ref c4, .int (nI (u.2.2.1 0))])), (c1, zaI k 20 (u.2.1 5)), (c2, zaI k 20 (u.2.1 6)), (c3, zaI k 20 (u.2.1 7)), (c4, zaI k 20 (u.2.1 8))] sz (nI (u.2.2.1 0 + 1)) (fun w : va_W => w = [(hm, .inr (7, [.ref p0, .ref c0, .ref n0, .ref b0, .ref e0, .ref f0, .ref l1, .ref l2, .ref l3, .ref l4, .ref l5, .int (u.2.1 11 2), .int (msk (u.2.2.2 1)), .long (u.1 9 0)])), (c0, .inr (5, [.ref c1, .ref c2, .ref c3, .ref c4, .int (nI (u.2.2.1 0 + 1))])), (c1, zaI k 20 (upd (u.2.1 5) (u.2.2.1 0) a)), (c2, zaI k 20 (upd (u.2.1 6) (u.2.2.1 0) x)), (c3, zaI k 20 (upd (u.2.1 7) (u.2.2.1 0) y)), (c4, zaI k 20 (upd (u.2.1 8) (u.2.2.1 0) z))])) 0 0 (va_A [(hm, .inr (7, [.ref p0, .ref c0, .ref n0, .ref b0, .ref e0, .ref f0, .ref l1, .ref l2, .ref l3, .ref l4, .ref l5, .int (u.2.1 11 2), .int (msk (u.2.2.2 1)), .long (u.1 9 0)])), (c0, .inr (5, [.ref c1, .ref c2, .ref c3, .ref c4, .int (nI (u.2.2.1 0))])), (c1, zaI k 20 (u.2.1 5)), (c2, zaI k 20 (u.2.1 6)), (c3, zaI k 20 (u.2.1 7)), (c4, zaI k 20 (u.2.1 8))] sz) := by
  refine Met.ofW (cc := cX8_addSegment) (maxL := 5) (ret := (some .int)) (by decide) rfl ?_
  intro p e s m args below meth c s₁ B hml hv
  obtain ⟨rfl, hsz, hP, hK, hD0, hE⟩ := hv
  have hx := B.exec
  have hb := B.bytes
  have hr := B.returns
  have hts := atoms_spec (ws := wsX8_addSegment) B.pre
  have hown : s.vm.findClass RX8 = some m.cls := findClass_of_methodNamed B.named
  have hlocks := B.notSynchronized
  subst hsz
  have hD := hD0.self (sz := s.heap.size)
  delta zQi zB
  generalize hAe : va_A [(hm, .inr (7, [.ref p0, .ref c0, .ref n0, .ref b0, .ref e0, .ref f0, .ref l1, .ref l2, .ref l3, .ref l4, .ref l5, .int (u.2.1 11 2), .int (msk (u.2.2.2 1)), .long (u.1 9 0)])), (c0, .inr (5, [.ref c1, .ref c2, .ref c3, .ref c4, .int (nI (u.2.2.1 0))])), (c1, zaI k 20 (u.2.1 5)), (c2, zaI k 20 (u.2.1 6)), (c3, zaI k 20 (u.2.1 7)), (c4, zaI k 20 (u.2.1 8))] s.heap.size = A at hD hE ⊢
  have hA : ∀ q : Nat, s.heap.size ≤ q → A q := fun q h => by rw [← hAe]; exact Or.inr h
  have hS : va_S A s.heap s.heap [] := va_S.rf
  have hl := lv_entry [.ref hm, .int a, .int x, .int y, .int z] (n := 5) (Nat.le_of_ble_eq_true rfl)
  rw [lg_entry_eq]
  generalize (lg_sl [.ref hm, .int a, .int x, .int y, .int z] ++ List.replicate (5 - (lg_sl [.ref hm, .int a, .int x, .int y, .int z]).length) Slot.unset).toArray = ls at hl ⊢
  have hl : lv_has ls 5 [(0, .ref hm), (1, .int a), (2, .int x), (3, .int y), (4, .int z)] := hl
  have hl19 : (Cond.fieldLink RX8 19 "InertialReference" "script" "LInertialReference$Script;").before #[Value.ref hm, Value.int a, Value.int x, Value.int y, Value.int z] s = true := zw hts 1 rfl
  have hinX8 : ∀ w ∈ u_ws RX8 TX8 14, w ∈ wsX8_addSegment := fun w h => List.mem_cons_of_mem _ (List.mem_append_left _ (List.mem_append_right _ h))
  refine lv_iload_n hx hb dX8_addSegment_0 rfl (lv_at hl 1 rfl) ?_
  refine lv_iconst (v := 1) hx hb dX8_addSegment_1 (by decide) ?_
  refine lv_sipush (v := 1000) hx hb dX8_addSegment_2 (by decide) ?_
  refine z_calli0 (wc := []) (wr := [(hm, .inr (7, [.ref p0, .ref c0, .ref n0, .ref b0, .ref e0, .ref f0, .ref l1, .ref l2, .ref l3, .ref l4, .ref l5, .int (u.2.1 11 2), .int (msk (u.2.2.2 1)), .long (u.1 9 0)])), (c0, .inr (5, [.ref c1, .ref c2, .ref c3, .ref c4, .int (nI (u.2.2.1 0))])), (c1, zaI k 20 (u.2.1 5)), (c2, zaI k 20 (u.2.1 6)), (c3, zaI k 20 (u.2.1 7)), (c4, zaI k 20 (u.2.1 8))]) (va_runS (As := [.int a, .int 1, .int 1000]) (rest := []) ⟨hx, hb, hml, hown, hts⟩ (c_X5_isBetween l D k s.heap.size a 1 1000) (va_cwS 3 hts gX8_addSegment_X5_isBetween rfl rfl rfl (by decide +kernel) ⟨Nat.le_of_ble_eq_true rfl, Nat.le_of_ble_eq_true rfl⟩) (z_preS (wc := []) hP hD hK [] rfl rfl zb0 zp0) rfl rfl hl.1 rfl (lv_room (Nat.le_of_ble_eq_true rfl)) dX8_addSegment_5 ⟨Nat.zero_le _, Nat.zero_le _⟩) hP hD hS hA [] [0, 1, 2, 3, 4, 5] rfl rfl rfl (by decide) (fun w H locs hF hP hD hS => ?_)
  subst hF
  have hP : va_P D vwCl [(hm, .inr (7, [.ref p0, .ref c0, .ref n0, .ref b0, .ref e0, .ref f0, .ref l1, .ref l2, .ref l3, .ref l4, .ref l5, .int (u.2.1 11 2), .int (msk (u.2.2.2 1)), .long (u.1 9 0)])), (c0, .inr (5, [.ref c1, .ref c2, .ref c3, .ref c4, .int (nI (u.2.2.1 0))])), (c1, zaI k 20 (u.2.1 5)), (c2, zaI k 20 (u.2.1 6)), (c3, zaI k 20 (u.2.1 7)), (c4, zaI k 20 (u.2.1 8))] H := hP
  have hD : va_D A [(hm, .inr (7, [.ref p0, .ref c0, .ref n0, .ref b0, .ref e0, .ref f0, .ref l1, .ref l2, .ref l3, .ref l4, .ref l5, .int (u.2.1 11 2), .int (msk (u.2.2.2 1)), .long (u.1 9 0)])), (c0, .inr (5, [.ref c1, .ref c2, .ref c3, .ref c4, .int (nI (u.2.2.1 0))])), (c1, zaI k 20 (u.2.1 5)), (c2, zaI k 20 (u.2.1 6)), (c3, zaI k 20 (u.2.1 7)), (c4, zaI k 20 (u.2.1 8))] := hD
  refine W.eq (g2 := F0 m 8 ls (.int (zb (zin a 1 1000)) :: [])) (by rw [zIi a 1 1000 (A := 1) (B := 1000) (by decide) (by decide)]) ?_
  refine lv_if_eq (tgt := 21) hx hb dX8_addSegment_8 (by decide) (fun c_1 => ?_) (fun c_1 => ?_)
  · skip
    have c_1 := zb_e c_1
    first | exact absurd (c_1.symm.trans h0) (by decide) | exact absurd (c_1.symm.trans h1) (by decide)
  · skip
    have c_1 := zb_n c_1
    refine lv_iload_n hx hb dX8_addSegment_11 rfl (lv_at hl 2 rfl) ?_
    refine lv_iload_n hx hb dX8_addSegment_12 rfl (lv_at hl 3 rfl) ?_
    refine lv_iload hx hb dX8_addSegment_13 (lv_at hl 4 rfl) ?_
    refine z_calli0 (wc := []) (wr := [(hm, .inr (7, [.ref p0, .ref c0, .ref n0, .ref b0, .ref e0, .ref f0, .ref l1, .ref l2, .ref l3, .ref l4, .ref l5, .int (u.2.1 11 2), .int (msk (u.2.2.2 1)), .long (u.1 9 0)])), (c0, .inr (5, [.ref c1, .ref c2, .ref c3, .ref c4, .int (nI (u.2.2.1 0))])), (c1, zaI k 20 (u.2.1 5)), (c2, zaI k 20 (u.2.1 6)), (c3, zaI k 20 (u.2.1 7)), (c4, zaI k 20 (u.2.1 8))]) (va_runS (As := [.int x, .int y, .int z]) (rest := []) ⟨hx, hb, hml, hown, hts⟩ (c_X8_isTurn l D k H.size x y z) (va_cwS 3 hts gX8_addSegment_X8_isTurn rfl rfl rfl (by decide +kernel) ⟨Nat.le_of_ble_eq_true rfl, Nat.le_of_ble_eq_true rfl⟩) (z_preS (wc := []) hP hD hK [] rfl rfl zb0 zp0) rfl rfl hl.1 rfl (lv_room (Nat.le_of_ble_eq_true rfl)) dX8_addSegment_15 ⟨Nat.zero_le _, Nat.zero_le _⟩) hP hD hS hA [] [0, 1, 2, 3, 4, 5] rfl rfl rfl (by decide) (fun w H locs hF hP hD hS => ?_)
    subst hF
    have hP : va_P D vwCl [(hm, .inr (7, [.ref p0, .ref c0, .ref n0, .ref b0, .ref e0, .ref f0, .ref l1, .ref l2, .ref l3, .ref l4, .ref l5, .int (u.2.1 11 2), .int (msk (u.2.2.2 1)), .long (u.1 9 0)])), (c0, .inr (5, [.ref c1, .ref c2, .ref c3, .ref c4, .int (nI (u.2.2.1 0))])), (c1, zaI k 20 (u.2.1 5)), (c2, zaI k 20 (u.2.1 6)), (c3, zaI k 20 (u.2.1 7)), (c4, zaI k 20 (u.2.1 8))] H := hP
    have hD : va_D A [(hm, .inr (7, [.ref p0, .ref c0, .ref n0, .ref b0, .ref e0, .ref f0, .ref l1, .ref l2, .ref l3, .ref l4, .ref l5, .int (u.2.1 11 2), .int (msk (u.2.2.2 1)), .long (u.1 9 0)])), (c0, .inr (5, [.ref c1, .ref c2, .ref c3, .ref c4, .int (nI (u.2.2.1 0))])), (c1, zaI k 20 (u.2.1 5)), (c2, zaI k 20 (u.2.1 6)), (c3, zaI k 20 (u.2.1 7)), (c4, zaI k 20 (u.2.1 8))] := hD
    refine lv_if_ne (tgt := 24) hx hb dX8_addSegment_18 (by decide) (fun c_2 => ?_) (fun c_2 => ?_)
    · skip
      have c_2 := zb_n c_2
      refine lv_aload_n hx hb dX8_addSegment_24 rfl (lv_at hl 0 rfl) ?_
      refine va_get (D := D) (ci := 7) (v := .ref c0) (C := RX8) (T := TX8) (N := 14) hx hb hts hinX8 hown hK hP 0 rfl rfl 1 (Nat.le_of_ble_eq_true rfl) hl19 (fun _ h9 => h9) rfl dX8_addSegment_25 ?_
      refine lv_iload_n hx hb dX8_addSegment_28 rfl (lv_at hl 1 rfl) ?_
      refine lv_iload_n hx hb dX8_addSegment_29 rfl (lv_at hl 2 rfl) ?_
      refine lv_iload_n hx hb dX8_addSegment_30 rfl (lv_at hl 3 rfl) ?_
      refine lv_iload hx hb dX8_addSegment_31 (lv_at hl 4 rfl) ?_
      refine z_calli0 (wc := [(c0, .inr (5, [.ref c1, .ref c2, .ref c3, .ref c4, .int (nI (u.2.2.1 0))])), (c1, zaI k 20 (u.2.1 5)), (c2, zaI k 20 (u.2.1 6)), (c3, zaI k 20 (u.2.1 7)), (c4, zaI k 20 (u.2.1 8))]) (wr := [(hm, .inr (7, [.ref p0, .ref c0, .ref n0, .ref b0, .ref e0, .ref f0, .ref l1, .ref l2, .ref l3, .ref l4, .ref l5, .int (u.2.1 11 2), .int (msk (u.2.2.2 1)), .long (u.1 9 0)]))]) (va_runV (As := [.int a, .int x, .int y, .int z]) (rest := []) ⟨hx, hb, hml, hown, hts⟩ (c_X6_append_ok l D k H.size c0 c1 c2 c3 c4 (u.2.2.1 0) (u.2.1 5) (u.2.1 6) (u.2.1 7) (u.2.1 8) a x y z hn) (cwV 4 hts gX8_addSegment_X6_append rfl rfl rfl (by decide +kernel) ⟨Nat.le_of_ble_eq_true rfl, Nat.le_of_ble_eq_true rfl⟩) (z_preV (wc := [(c0, .inr (5, [.ref c1, .ref c2, .ref c3, .ref c4, .int (nI (u.2.2.1 0))])), (c1, zaI k 20 (u.2.1 5)), (c2, zaI k 20 (u.2.1 6)), (c3, zaI k 20 (u.2.1 7)), (c4, zaI k 20 (u.2.1 8))]) 1 5 hP hD hK [1, 2, 3, 4, 5] rfl rfl rfl rfl zb0 zp0) rfl rfl hl.1 rfl (lv_room (Nat.le_of_ble_eq_true rfl)) dX8_addSegment_33 ⟨Nat.zero_le _, Nat.zero_le _⟩) hP hD hS hA [1, 2, 3, 4, 5] [0] rfl rfl rfl (by decide) (fun w H locs hF hP hD hS => ?_)
      subst hF
      have hP : va_P D vwCl [(hm, .inr (7, [.ref p0, .ref c0, .ref n0, .ref b0, .ref e0, .ref f0, .ref l1, .ref l2, .ref l3, .ref l4, .ref l5, .int (u.2.1 11 2), .int (msk (u.2.2.2 1)), .long (u.1 9 0)])), (c0, .inr (5, [.ref c1, .ref c2, .ref c3, .ref c4, .int (nI ((u.2.2.1 0) + 1))])), (c1, zaI k 20 (upd (u.2.1 5) (u.2.2.1 0) a)), (c2, zaI k 20 (upd (u.2.1 6) (u.2.2.1 0) x)), (c3, zaI k 20 (upd (u.2.1 7) (u.2.2.1 0) y)), (c4, zaI k 20 (upd (u.2.1 8) (u.2.2.1 0) z))] H := hP
      have hD : va_D A [(hm, .inr (7, [.ref p0, .ref c0, .ref n0, .ref b0, .ref e0, .ref f0, .ref l1, .ref l2, .ref l3, .ref l4, .ref l5, .int (u.2.1 11 2), .int (msk (u.2.2.2 1)), .long (u.1 9 0)])), (c0, .inr (5, [.ref c1, .ref c2, .ref c3, .ref c4, .int (nI ((u.2.2.1 0) + 1))])), (c1, zaI k 20 (upd (u.2.1 5) (u.2.2.1 0) a)), (c2, zaI k 20 (upd (u.2.1 6) (u.2.2.1 0) x)), (c3, zaI k 20 (upd (u.2.1 7) (u.2.2.1 0) y)), (c4, zaI k 20 (upd (u.2.1 8) (u.2.2.1 0) z))] := hD
      have hP := z_congO hP 1 rfl (fs2 := [.ref c1, .ref c2, .ref c3, .ref c4, .int (nI (u.2.2.1 0 + 1))]) (by rfl) (ws' := [(hm, .inr (7, [.ref p0, .ref c0, .ref n0, .ref b0, .ref e0, .ref f0, .ref l1, .ref l2, .ref l3, .ref l4, .ref l5, .int (u.2.1 11 2), .int (msk (u.2.2.2 1)), .long (u.1 9 0)])), (c0, .inr (5, [.ref c1, .ref c2, .ref c3, .ref c4, .int (nI (u.2.2.1 0 + 1))])), (c1, zaI k 20 (upd (u.2.1 5) (u.2.2.1 0) a)), (c2, zaI k 20 (upd (u.2.1 6) (u.2.2.1 0) x)), (c3, zaI k 20 (upd (u.2.1 7) (u.2.2.1 0) y)), (c4, zaI k 20 (upd (u.2.1 8) (u.2.2.1 0) z))]) rfl
      have hD := z_congDO hD 1 rfl (fs2 := [.ref c1, .ref c2, .ref c3, .ref c4, .int (nI (u.2.2.1 0 + 1))]) (ws' := [(hm, .inr (7, [.ref p0, .ref c0, .ref n0, .ref b0, .ref e0, .ref f0, .ref l1, .ref l2, .ref l3, .ref l4, .ref l5, .int (u.2.1 11 2), .int (msk (u.2.2.2 1)), .long (u.1 9 0)])), (c0, .inr (5, [.ref c1, .ref c2, .ref c3, .ref c4, .int (nI (u.2.2.1 0 + 1))])), (c1, zaI k 20 (upd (u.2.1 5) (u.2.2.1 0) a)), (c2, zaI k 20 (upd (u.2.1 6) (u.2.2.1 0) x)), (c3, zaI k 20 (upd (u.2.1 7) (u.2.2.1 0) y)), (c4, zaI k 20 (upd (u.2.1 8) (u.2.2.1 0) z))]) rfl
      have hP9 := hP.sub (ws' := [(hm, .inr (7, [.ref p0, .ref c0, .ref n0, .ref b0, .ref e0, .ref f0, .ref l1, .ref l2, .ref l3, .ref l4, .ref l5, .int (u.2.1 11 2), .int (msk (u.2.2.2 1)), .long (u.1 9 0)])), (c0, .inr (5, [.ref c1, .ref c2, .ref c3, .ref c4, .int (nI (u.2.2.1 0 + 1))])), (c1, zaI k 20 (upd (u.2.1 5) (u.2.2.1 0) a)), (c2, zaI k 20 (upd (u.2.1 6) (u.2.2.1 0) x)), (c3, zaI k 20 (upd (u.2.1 7) (u.2.2.1 0) y)), (c4, zaI k 20 (upd (u.2.1 8) (u.2.2.1 0) z))]) [0, 1, 2, 3, 4, 5] rfl
      have hD9 := hD.sub (ws' := [(hm, .inr (7, [.ref p0, .ref c0, .ref n0, .ref b0, .ref e0, .ref f0, .ref l1, .ref l2, .ref l3, .ref l4, .ref l5, .int (u.2.1 11 2), .int (msk (u.2.2.2 1)), .long (u.1 9 0)])), (c0, .inr (5, [.ref c1, .ref c2, .ref c3, .ref c4, .int (nI (u.2.2.1 0 + 1))])), (c1, zaI k 20 (upd (u.2.1 5) (u.2.2.1 0) a)), (c2, zaI k 20 (upd (u.2.1 6) (u.2.2.1 0) x)), (c3, zaI k 20 (upd (u.2.1 7) (u.2.2.1 0) y)), (c4, zaI k 20 (upd (u.2.1 8) (u.2.2.1 0) z))]) [0, 1, 2, 3, 4, 5] (by decide) rfl
      exact W.iret (v := nI ((u.2.2.1 0) + 1)) hx hb hr (fun t9 ht9 hW9 => ⟨⟨(nI ((u.2.2.1 0) + 1)), [(hm, .inr (7, [.ref p0, .ref c0, .ref n0, .ref b0, .ref e0, .ref f0, .ref l1, .ref l2, .ref l3, .ref l4, .ref l5, .int (u.2.1 11 2), .int (msk (u.2.2.2 1)), .long (u.1 9 0)])), (c0, .inr (5, [.ref c1, .ref c2, .ref c3, .ref c4, .int (nI (u.2.2.1 0 + 1))])), (c1, zaI k 20 (upd (u.2.1 5) (u.2.2.1 0) a)), (c2, zaI k 20 (upd (u.2.1 6) (u.2.2.1 0) x)), (c3, zaI k 20 (upd (u.2.1 7) (u.2.2.1 0) y)), (c4, zaI k 20 (upd (u.2.1 8) (u.2.2.1 0) z))], rfl, ⟨by rfl, rfl⟩, by rw [ht9]; exact hP9, hD9⟩, hS.F ht9⟩) hS.2.2 dX8_addSegment_36
    · skip
      have c_2 := zb_e c_2
      first | exact absurd (c_2.symm.trans h0) (by decide) | exact absurd (c_2.symm.trans h1) (by decide)
set_option maxHeartbeats 4000000 in
set_option maxRecDepth 100000 in
theorem c_X8_addSegment_no (l : Launch) (D : va_G) (k : Nat → ClassId) (sz : Nat) (hm p0 c0 n0 b0 e0 f0 l1 l2 l3 l4 l5 : Nat) (u : zS) (a x y z : Int32) (hno : (zin a 1 1000 && ((zin x (-4000000) 4000000 && (zin y (-4000000) 4000000 && zin z (-4000000) 4000000)))) = false) : Met l yX8_addSegment wsX8_addSegment ({ frames := 2, cells := 0, slots := 0, locals := 45 } : Room) (va_Pc [.ref hm, .int a, .int x, .int y, .int z] (zPre D k [(hm, .inr (7, [.ref p0, .ref c0, .ref n0, .ref b0, .ref e0, .ref f0, .ref l1, .ref l2, .ref l3, .ref l4, .ref l5, .int (u.2.1 11 2), .int (msk (u.2.2.2 1)), .long (u.1 9 0)]))] sz zX0)) (zQi D [(hm, .inr (7, [.ref p0, .ref c0, .ref n0, .ref b0, .ref e0, .ref f0, .ref l1, .ref l2, .ref l3, .ref l4, .ref l5, .int (u.2.1 11 2), .int (msk (u.2.2.2 1)), .long (u.1 9 0)]))] sz (-2) (fun w : va_W => w = [(hm, .inr (7, [.ref p0, .ref c0, .ref n0, .ref b0, .ref e0, .ref f0, .ref l1, .ref l2, .ref l3, .ref l4, .ref l5, .int (u.2.1 11 2), .int (msk (u.2.2.2 1)), .long (u.1 9 0)]))])) 0 0 (va_A [(hm, .inr (7, [.ref p0, .ref c0, .ref n0, .ref b0, .ref e0, .ref f0, .ref l1, .ref l2, .ref l3, .ref l4, .ref l5, .int (u.2.1 11 2), .int (msk (u.2.2.2 1)), .long (u.1 9 0)]))] sz) := by
  refine Met.ofW (cc := cX8_addSegment) (maxL := 5) (ret := (some .int)) (by decide) rfl ?_
  intro p e s m args below meth c s₁ B hml hv
  obtain ⟨rfl, hsz, hP, hK, hD0, hE⟩ := hv
  have hx := B.exec
  have hb := B.bytes
  have hr := B.returns
  have hts := atoms_spec (ws := wsX8_addSegment) B.pre
  have hown : s.vm.findClass RX8 = some m.cls := findClass_of_methodNamed B.named
  have hlocks := B.notSynchronized
  subst hsz
  have hD := hD0.self (sz := s.heap.size)
  delta zQi zB
  generalize hAe : va_A [(hm, .inr (7, [.ref p0, .ref c0, .ref n0, .ref b0, .ref e0, .ref f0, .ref l1, .ref l2, .ref l3, .ref l4, .ref l5, .int (u.2.1 11 2), .int (msk (u.2.2.2 1)), .long (u.1 9 0)]))] s.heap.size = A at hD hE ⊢
  have hA : ∀ q : Nat, s.heap.size ≤ q → A q := fun q h => by rw [← hAe]; exact Or.inr h
  have hS : va_S A s.heap s.heap [] := va_S.rf
  have hl := lv_entry [.ref hm, .int a, .int x, .int y, .int z] (n := 5) (Nat.le_of_ble_eq_true rfl)
  rw [lg_entry_eq]
  generalize (lg_sl [.ref hm, .int a, .int x, .int y, .int z] ++ List.replicate (5 - (lg_sl [.ref hm, .int a, .int x, .int y, .int z]).length) Slot.unset).toArray = ls at hl ⊢
  have hl : lv_has ls 5 [(0, .ref hm), (1, .int a), (2, .int x), (3, .int y), (4, .int z)] := hl
  refine lv_iload_n hx hb dX8_addSegment_0 rfl (lv_at hl 1 rfl) ?_
  refine lv_iconst (v := 1) hx hb dX8_addSegment_1 (by decide) ?_
  refine lv_sipush (v := 1000) hx hb dX8_addSegment_2 (by decide) ?_
  refine z_calli0 (wc := []) (wr := [(hm, .inr (7, [.ref p0, .ref c0, .ref n0, .ref b0, .ref e0, .ref f0, .ref l1, .ref l2, .ref l3, .ref l4, .ref l5, .int (u.2.1 11 2), .int (msk (u.2.2.2 1)), .long (u.1 9 0)]))]) (va_runS (As := [.int a, .int 1, .int 1000]) (rest := []) ⟨hx, hb, hml, hown, hts⟩ (c_X5_isBetween l D k s.heap.size a 1 1000) (va_cwS 3 hts gX8_addSegment_X5_isBetween rfl rfl rfl (by decide +kernel) ⟨Nat.le_of_ble_eq_true rfl, Nat.le_of_ble_eq_true rfl⟩) (z_preS (wc := []) hP hD hK [] rfl rfl zb0 zp0) rfl rfl hl.1 rfl (lv_room (Nat.le_of_ble_eq_true rfl)) dX8_addSegment_5 ⟨Nat.zero_le _, Nat.zero_le _⟩) hP hD hS hA [] [0] rfl rfl rfl (by decide) (fun w H locs hF hP hD hS => ?_)
  subst hF
  have hP : va_P D vwCl [(hm, .inr (7, [.ref p0, .ref c0, .ref n0, .ref b0, .ref e0, .ref f0, .ref l1, .ref l2, .ref l3, .ref l4, .ref l5, .int (u.2.1 11 2), .int (msk (u.2.2.2 1)), .long (u.1 9 0)]))] H := hP
  have hD : va_D A [(hm, .inr (7, [.ref p0, .ref c0, .ref n0, .ref b0, .ref e0, .ref f0, .ref l1, .ref l2, .ref l3, .ref l4, .ref l5, .int (u.2.1 11 2), .int (msk (u.2.2.2 1)), .long (u.1 9 0)]))] := hD
  refine W.eq (g2 := F0 m 8 ls (.int (zb (zin a 1 1000)) :: [])) (by rw [zIi a 1 1000 (A := 1) (B := 1000) (by decide) (by decide)]) ?_
  refine lv_if_eq (tgt := 21) hx hb dX8_addSegment_8 (by decide) (fun c_1 => ?_) (fun c_1 => ?_)
  · skip
    have c_1 := zb_e c_1
    refine lv_bipush (v := (-2)) hx hb dX8_addSegment_21 (by decide) ?_
    have hP9 := hP.sub (ws' := [(hm, .inr (7, [.ref p0, .ref c0, .ref n0, .ref b0, .ref e0, .ref f0, .ref l1, .ref l2, .ref l3, .ref l4, .ref l5, .int (u.2.1 11 2), .int (msk (u.2.2.2 1)), .long (u.1 9 0)]))]) [0] rfl
    have hD9 := hD.sub (ws' := [(hm, .inr (7, [.ref p0, .ref c0, .ref n0, .ref b0, .ref e0, .ref f0, .ref l1, .ref l2, .ref l3, .ref l4, .ref l5, .int (u.2.1 11 2), .int (msk (u.2.2.2 1)), .long (u.1 9 0)]))]) [0] (by decide) rfl
    exact W.iret (v := (-2)) hx hb hr (fun t9 ht9 hW9 => ⟨⟨(-2), [(hm, .inr (7, [.ref p0, .ref c0, .ref n0, .ref b0, .ref e0, .ref f0, .ref l1, .ref l2, .ref l3, .ref l4, .ref l5, .int (u.2.1 11 2), .int (msk (u.2.2.2 1)), .long (u.1 9 0)]))], rfl, ⟨rfl, rfl⟩, by rw [ht9]; exact hP9, hD9⟩, hS.F ht9⟩) hS.2.2 dX8_addSegment_23
  · skip
    have c_1 := zb_n c_1
    refine lv_iload_n hx hb dX8_addSegment_11 rfl (lv_at hl 2 rfl) ?_
    refine lv_iload_n hx hb dX8_addSegment_12 rfl (lv_at hl 3 rfl) ?_
    refine lv_iload hx hb dX8_addSegment_13 (lv_at hl 4 rfl) ?_
    refine z_calli0 (wc := []) (wr := [(hm, .inr (7, [.ref p0, .ref c0, .ref n0, .ref b0, .ref e0, .ref f0, .ref l1, .ref l2, .ref l3, .ref l4, .ref l5, .int (u.2.1 11 2), .int (msk (u.2.2.2 1)), .long (u.1 9 0)]))]) (va_runS (As := [.int x, .int y, .int z]) (rest := []) ⟨hx, hb, hml, hown, hts⟩ (c_X8_isTurn l D k H.size x y z) (va_cwS 3 hts gX8_addSegment_X8_isTurn rfl rfl rfl (by decide +kernel) ⟨Nat.le_of_ble_eq_true rfl, Nat.le_of_ble_eq_true rfl⟩) (z_preS (wc := []) hP hD hK [] rfl rfl zb0 zp0) rfl rfl hl.1 rfl (lv_room (Nat.le_of_ble_eq_true rfl)) dX8_addSegment_15 ⟨Nat.zero_le _, Nat.zero_le _⟩) hP hD hS hA [] [0] rfl rfl rfl (by decide) (fun w H locs hF hP hD hS => ?_)
    subst hF
    have hP : va_P D vwCl [(hm, .inr (7, [.ref p0, .ref c0, .ref n0, .ref b0, .ref e0, .ref f0, .ref l1, .ref l2, .ref l3, .ref l4, .ref l5, .int (u.2.1 11 2), .int (msk (u.2.2.2 1)), .long (u.1 9 0)]))] H := hP
    have hD : va_D A [(hm, .inr (7, [.ref p0, .ref c0, .ref n0, .ref b0, .ref e0, .ref f0, .ref l1, .ref l2, .ref l3, .ref l4, .ref l5, .int (u.2.1 11 2), .int (msk (u.2.2.2 1)), .long (u.1 9 0)]))] := hD
    refine lv_if_ne (tgt := 24) hx hb dX8_addSegment_18 (by decide) (fun c_2 => ?_) (fun c_2 => ?_)
    · skip
      have c_2 := zb_n c_2
      rw [c_1, c_2] at hno; exact absurd hno (by decide)
    · skip
      have c_2 := zb_e c_2
      refine lv_bipush (v := (-2)) hx hb dX8_addSegment_21 (by decide) ?_
      have hP9 := hP.sub (ws' := [(hm, .inr (7, [.ref p0, .ref c0, .ref n0, .ref b0, .ref e0, .ref f0, .ref l1, .ref l2, .ref l3, .ref l4, .ref l5, .int (u.2.1 11 2), .int (msk (u.2.2.2 1)), .long (u.1 9 0)]))]) [0] rfl
      have hD9 := hD.sub (ws' := [(hm, .inr (7, [.ref p0, .ref c0, .ref n0, .ref b0, .ref e0, .ref f0, .ref l1, .ref l2, .ref l3, .ref l4, .ref l5, .int (u.2.1 11 2), .int (msk (u.2.2.2 1)), .long (u.1 9 0)]))]) [0] (by decide) rfl
      exact W.iret (v := (-2)) hx hb hr (fun t9 ht9 hW9 => ⟨⟨(-2), [(hm, .inr (7, [.ref p0, .ref c0, .ref n0, .ref b0, .ref e0, .ref f0, .ref l1, .ref l2, .ref l3, .ref l4, .ref l5, .int (u.2.1 11 2), .int (msk (u.2.2.2 1)), .long (u.1 9 0)]))], rfl, ⟨rfl, rfl⟩, by rw [ht9]; exact hP9, hD9⟩, hS.F ht9⟩) hS.2.2 dX8_addSegment_23
set_option maxHeartbeats 4000000 in
set_option maxRecDepth 100000 in
theorem c_X8_addSegment_full (l : Launch) (D : va_G) (k : Nat → ClassId) (sz : Nat) (hm p0 c0 c1 c2 c3 c4 n0 b0 e0 f0 l1 l2 l3 l4 l5 : Nat) (u : zS) (a x y z : Int32) (h0 : zin a 1 1000 = true) (h1 : ((zin x (-4000000) 4000000 && (zin y (-4000000) 4000000 && zin z (-4000000) 4000000))) = true) (hn : u.2.2.1 0 = 20) : Met l yX8_addSegment wsX8_addSegment ({ frames := 2, cells := 0, slots := 0, locals := 45 } : Room) (va_Pc [.ref hm, .int a, .int x, .int y, .int z] (zPre D k [(hm, .inr (7, [.ref p0, .ref c0, .ref n0, .ref b0, .ref e0, .ref f0, .ref l1, .ref l2, .ref l3, .ref l4, .ref l5, .int (u.2.1 11 2), .int (msk (u.2.2.2 1)), .long (u.1 9 0)])), (c0, .inr (5, [.ref c1, .ref c2, .ref c3, .ref c4, .int (nI (u.2.2.1 0))])), (c1, zaI k 20 (u.2.1 5)), (c2, zaI k 20 (u.2.1 6)), (c3, zaI k 20 (u.2.1 7)), (c4, zaI k 20 (u.2.1 8))] sz zX0)) (zQi D [(hm, .inr (7, [.ref p0, .ref c0, .ref n0, .ref b0, .ref e0, .ref f0, .ref l1, .ref l2, .ref l3, .ref l4, .ref l5, .int (u.2.1 11 2), .int (msk (u.2.2.2 1)), .long (u.1 9 0)])), (c0, .inr (5, [.ref c1, .ref c2, .ref c3, .ref c4, .int (nI (u.2.2.1 0))])), (c1, zaI k 20 (u.2.1 5)), (c2, zaI k 20 (u.2.1 6)), (c3, zaI k 20 (u.2.1 7)), (c4, zaI k 20 (u.2.1 8))] sz (-3) (fun w : va_W => w = [(hm, .inr (7, [.ref p0, .ref c0, .ref n0, .ref b0, .ref e0, .ref f0, .ref l1, .ref l2, .ref l3, .ref l4, .ref l5, .int (u.2.1 11 2), .int (msk (u.2.2.2 1)), .long (u.1 9 0)])), (c0, .inr (5, [.ref c1, .ref c2, .ref c3, .ref c4, .int (nI (u.2.2.1 0))])), (c1, zaI k 20 (u.2.1 5)), (c2, zaI k 20 (u.2.1 6)), (c3, zaI k 20 (u.2.1 7)), (c4, zaI k 20 (u.2.1 8))])) 0 0 (va_A [(hm, .inr (7, [.ref p0, .ref c0, .ref n0, .ref b0, .ref e0, .ref f0, .ref l1, .ref l2, .ref l3, .ref l4, .ref l5, .int (u.2.1 11 2), .int (msk (u.2.2.2 1)), .long (u.1 9 0)])), (c0, .inr (5, [.ref c1, .ref c2, .ref c3, .ref c4, .int (nI (u.2.2.1 0))])), (c1, zaI k 20 (u.2.1 5)), (c2, zaI k 20 (u.2.1 6)), (c3, zaI k 20 (u.2.1 7)), (c4, zaI k 20 (u.2.1 8))] sz) := by
  refine Met.ofW (cc := cX8_addSegment) (maxL := 5) (ret := (some .int)) (by decide) rfl ?_
  intro p e s m args below meth c s₁ B hml hv
  obtain ⟨rfl, hsz, hP, hK, hD0, hE⟩ := hv
  have hx := B.exec
  have hb := B.bytes
  have hr := B.returns
  have hts := atoms_spec (ws := wsX8_addSegment) B.pre
  have hown : s.vm.findClass RX8 = some m.cls := findClass_of_methodNamed B.named
  have hlocks := B.notSynchronized
  subst hsz
  have hD := hD0.self (sz := s.heap.size)
  delta zQi zB
  generalize hAe : va_A [(hm, .inr (7, [.ref p0, .ref c0, .ref n0, .ref b0, .ref e0, .ref f0, .ref l1, .ref l2, .ref l3, .ref l4, .ref l5, .int (u.2.1 11 2), .int (msk (u.2.2.2 1)), .long (u.1 9 0)])), (c0, .inr (5, [.ref c1, .ref c2, .ref c3, .ref c4, .int (nI (u.2.2.1 0))])), (c1, zaI k 20 (u.2.1 5)), (c2, zaI k 20 (u.2.1 6)), (c3, zaI k 20 (u.2.1 7)), (c4, zaI k 20 (u.2.1 8))] s.heap.size = A at hD hE ⊢
  have hA : ∀ q : Nat, s.heap.size ≤ q → A q := fun q h => by rw [← hAe]; exact Or.inr h
  have hS : va_S A s.heap s.heap [] := va_S.rf
  have hl := lv_entry [.ref hm, .int a, .int x, .int y, .int z] (n := 5) (Nat.le_of_ble_eq_true rfl)
  rw [lg_entry_eq]
  generalize (lg_sl [.ref hm, .int a, .int x, .int y, .int z] ++ List.replicate (5 - (lg_sl [.ref hm, .int a, .int x, .int y, .int z]).length) Slot.unset).toArray = ls at hl ⊢
  have hl : lv_has ls 5 [(0, .ref hm), (1, .int a), (2, .int x), (3, .int y), (4, .int z)] := hl
  have hl19 : (Cond.fieldLink RX8 19 "InertialReference" "script" "LInertialReference$Script;").before #[Value.ref hm, Value.int a, Value.int x, Value.int y, Value.int z] s = true := zw hts 1 rfl
  have hinX8 : ∀ w ∈ u_ws RX8 TX8 14, w ∈ wsX8_addSegment := fun w h => List.mem_cons_of_mem _ (List.mem_append_left _ (List.mem_append_right _ h))
  refine lv_iload_n hx hb dX8_addSegment_0 rfl (lv_at hl 1 rfl) ?_
  refine lv_iconst (v := 1) hx hb dX8_addSegment_1 (by decide) ?_
  refine lv_sipush (v := 1000) hx hb dX8_addSegment_2 (by decide) ?_
  refine z_calli0 (wc := []) (wr := [(hm, .inr (7, [.ref p0, .ref c0, .ref n0, .ref b0, .ref e0, .ref f0, .ref l1, .ref l2, .ref l3, .ref l4, .ref l5, .int (u.2.1 11 2), .int (msk (u.2.2.2 1)), .long (u.1 9 0)])), (c0, .inr (5, [.ref c1, .ref c2, .ref c3, .ref c4, .int (nI (u.2.2.1 0))])), (c1, zaI k 20 (u.2.1 5)), (c2, zaI k 20 (u.2.1 6)), (c3, zaI k 20 (u.2.1 7)), (c4, zaI k 20 (u.2.1 8))]) (va_runS (As := [.int a, .int 1, .int 1000]) (rest := []) ⟨hx, hb, hml, hown, hts⟩ (c_X5_isBetween l D k s.heap.size a 1 1000) (va_cwS 3 hts gX8_addSegment_X5_isBetween rfl rfl rfl (by decide +kernel) ⟨Nat.le_of_ble_eq_true rfl, Nat.le_of_ble_eq_true rfl⟩) (z_preS (wc := []) hP hD hK [] rfl rfl zb0 zp0) rfl rfl hl.1 rfl (lv_room (Nat.le_of_ble_eq_true rfl)) dX8_addSegment_5 ⟨Nat.zero_le _, Nat.zero_le _⟩) hP hD hS hA [] [0, 1, 2, 3, 4, 5] rfl rfl rfl (by decide) (fun w H locs hF hP hD hS => ?_)
  subst hF
  have hP : va_P D vwCl [(hm, .inr (7, [.ref p0, .ref c0, .ref n0, .ref b0, .ref e0, .ref f0, .ref l1, .ref l2, .ref l3, .ref l4, .ref l5, .int (u.2.1 11 2), .int (msk (u.2.2.2 1)), .long (u.1 9 0)])), (c0, .inr (5, [.ref c1, .ref c2, .ref c3, .ref c4, .int (nI (u.2.2.1 0))])), (c1, zaI k 20 (u.2.1 5)), (c2, zaI k 20 (u.2.1 6)), (c3, zaI k 20 (u.2.1 7)), (c4, zaI k 20 (u.2.1 8))] H := hP
  have hD : va_D A [(hm, .inr (7, [.ref p0, .ref c0, .ref n0, .ref b0, .ref e0, .ref f0, .ref l1, .ref l2, .ref l3, .ref l4, .ref l5, .int (u.2.1 11 2), .int (msk (u.2.2.2 1)), .long (u.1 9 0)])), (c0, .inr (5, [.ref c1, .ref c2, .ref c3, .ref c4, .int (nI (u.2.2.1 0))])), (c1, zaI k 20 (u.2.1 5)), (c2, zaI k 20 (u.2.1 6)), (c3, zaI k 20 (u.2.1 7)), (c4, zaI k 20 (u.2.1 8))] := hD
  refine W.eq (g2 := F0 m 8 ls (.int (zb (zin a 1 1000)) :: [])) (by rw [zIi a 1 1000 (A := 1) (B := 1000) (by decide) (by decide)]) ?_
  refine lv_if_eq (tgt := 21) hx hb dX8_addSegment_8 (by decide) (fun c_1 => ?_) (fun c_1 => ?_)
  · skip
    have c_1 := zb_e c_1
    first | exact absurd (c_1.symm.trans h0) (by decide) | exact absurd (c_1.symm.trans h1) (by decide)
  · skip
    have c_1 := zb_n c_1
    refine lv_iload_n hx hb dX8_addSegment_11 rfl (lv_at hl 2 rfl) ?_
    refine lv_iload_n hx hb dX8_addSegment_12 rfl (lv_at hl 3 rfl) ?_
    refine lv_iload hx hb dX8_addSegment_13 (lv_at hl 4 rfl) ?_
    refine z_calli0 (wc := []) (wr := [(hm, .inr (7, [.ref p0, .ref c0, .ref n0, .ref b0, .ref e0, .ref f0, .ref l1, .ref l2, .ref l3, .ref l4, .ref l5, .int (u.2.1 11 2), .int (msk (u.2.2.2 1)), .long (u.1 9 0)])), (c0, .inr (5, [.ref c1, .ref c2, .ref c3, .ref c4, .int (nI (u.2.2.1 0))])), (c1, zaI k 20 (u.2.1 5)), (c2, zaI k 20 (u.2.1 6)), (c3, zaI k 20 (u.2.1 7)), (c4, zaI k 20 (u.2.1 8))]) (va_runS (As := [.int x, .int y, .int z]) (rest := []) ⟨hx, hb, hml, hown, hts⟩ (c_X8_isTurn l D k H.size x y z) (va_cwS 3 hts gX8_addSegment_X8_isTurn rfl rfl rfl (by decide +kernel) ⟨Nat.le_of_ble_eq_true rfl, Nat.le_of_ble_eq_true rfl⟩) (z_preS (wc := []) hP hD hK [] rfl rfl zb0 zp0) rfl rfl hl.1 rfl (lv_room (Nat.le_of_ble_eq_true rfl)) dX8_addSegment_15 ⟨Nat.zero_le _, Nat.zero_le _⟩) hP hD hS hA [] [0, 1, 2, 3, 4, 5] rfl rfl rfl (by decide) (fun w H locs hF hP hD hS => ?_)
    subst hF
    have hP : va_P D vwCl [(hm, .inr (7, [.ref p0, .ref c0, .ref n0, .ref b0, .ref e0, .ref f0, .ref l1, .ref l2, .ref l3, .ref l4, .ref l5, .int (u.2.1 11 2), .int (msk (u.2.2.2 1)), .long (u.1 9 0)])), (c0, .inr (5, [.ref c1, .ref c2, .ref c3, .ref c4, .int (nI (u.2.2.1 0))])), (c1, zaI k 20 (u.2.1 5)), (c2, zaI k 20 (u.2.1 6)), (c3, zaI k 20 (u.2.1 7)), (c4, zaI k 20 (u.2.1 8))] H := hP
    have hD : va_D A [(hm, .inr (7, [.ref p0, .ref c0, .ref n0, .ref b0, .ref e0, .ref f0, .ref l1, .ref l2, .ref l3, .ref l4, .ref l5, .int (u.2.1 11 2), .int (msk (u.2.2.2 1)), .long (u.1 9 0)])), (c0, .inr (5, [.ref c1, .ref c2, .ref c3, .ref c4, .int (nI (u.2.2.1 0))])), (c1, zaI k 20 (u.2.1 5)), (c2, zaI k 20 (u.2.1 6)), (c3, zaI k 20 (u.2.1 7)), (c4, zaI k 20 (u.2.1 8))] := hD
    refine lv_if_ne (tgt := 24) hx hb dX8_addSegment_18 (by decide) (fun c_2 => ?_) (fun c_2 => ?_)
    · skip
      have c_2 := zb_n c_2
      refine lv_aload_n hx hb dX8_addSegment_24 rfl (lv_at hl 0 rfl) ?_
      refine va_get (D := D) (ci := 7) (v := .ref c0) (C := RX8) (T := TX8) (N := 14) hx hb hts hinX8 hown hK hP 0 rfl rfl 1 (Nat.le_of_ble_eq_true rfl) hl19 (fun _ h9 => h9) rfl dX8_addSegment_25 ?_
      refine lv_iload_n hx hb dX8_addSegment_28 rfl (lv_at hl 1 rfl) ?_
      refine lv_iload_n hx hb dX8_addSegment_29 rfl (lv_at hl 2 rfl) ?_
      refine lv_iload_n hx hb dX8_addSegment_30 rfl (lv_at hl 3 rfl) ?_
      refine lv_iload hx hb dX8_addSegment_31 (lv_at hl 4 rfl) ?_
      refine z_calli0 (wc := [(c0, .inr (5, [.ref c1, .ref c2, .ref c3, .ref c4, .int (nI (u.2.2.1 0))])), (c1, zaI k 20 (u.2.1 5)), (c2, zaI k 20 (u.2.1 6)), (c3, zaI k 20 (u.2.1 7)), (c4, zaI k 20 (u.2.1 8))]) (wr := [(hm, .inr (7, [.ref p0, .ref c0, .ref n0, .ref b0, .ref e0, .ref f0, .ref l1, .ref l2, .ref l3, .ref l4, .ref l5, .int (u.2.1 11 2), .int (msk (u.2.2.2 1)), .long (u.1 9 0)]))]) (va_runV (As := [.int a, .int x, .int y, .int z]) (rest := []) ⟨hx, hb, hml, hown, hts⟩ (c_X6_append_no l D k H.size c0 c1 c2 c3 c4 (u.2.2.1 0) (u.2.1 5) (u.2.1 6) (u.2.1 7) (u.2.1 8) a x y z hn) (cwV 4 hts gX8_addSegment_X6_append rfl rfl rfl (by decide +kernel) ⟨Nat.le_of_ble_eq_true rfl, Nat.le_of_ble_eq_true rfl⟩) (z_preV (wc := [(c0, .inr (5, [.ref c1, .ref c2, .ref c3, .ref c4, .int (nI (u.2.2.1 0))])), (c1, zaI k 20 (u.2.1 5)), (c2, zaI k 20 (u.2.1 6)), (c3, zaI k 20 (u.2.1 7)), (c4, zaI k 20 (u.2.1 8))]) 1 5 hP hD hK [1, 2, 3, 4, 5] rfl rfl rfl rfl zb0 zp0) rfl rfl hl.1 rfl (lv_room (Nat.le_of_ble_eq_true rfl)) dX8_addSegment_33 ⟨Nat.zero_le _, Nat.zero_le _⟩) hP hD hS hA [1, 2, 3, 4, 5] [0] rfl rfl rfl (by decide) (fun w H locs hF hP hD hS => ?_)
      subst hF
      have hP : va_P D vwCl [(hm, .inr (7, [.ref p0, .ref c0, .ref n0, .ref b0, .ref e0, .ref f0, .ref l1, .ref l2, .ref l3, .ref l4, .ref l5, .int (u.2.1 11 2), .int (msk (u.2.2.2 1)), .long (u.1 9 0)])), (c0, .inr (5, [.ref c1, .ref c2, .ref c3, .ref c4, .int (nI (u.2.2.1 0))])), (c1, zaI k 20 (u.2.1 5)), (c2, zaI k 20 (u.2.1 6)), (c3, zaI k 20 (u.2.1 7)), (c4, zaI k 20 (u.2.1 8))] H := hP
      have hD : va_D A [(hm, .inr (7, [.ref p0, .ref c0, .ref n0, .ref b0, .ref e0, .ref f0, .ref l1, .ref l2, .ref l3, .ref l4, .ref l5, .int (u.2.1 11 2), .int (msk (u.2.2.2 1)), .long (u.1 9 0)])), (c0, .inr (5, [.ref c1, .ref c2, .ref c3, .ref c4, .int (nI (u.2.2.1 0))])), (c1, zaI k 20 (u.2.1 5)), (c2, zaI k 20 (u.2.1 6)), (c3, zaI k 20 (u.2.1 7)), (c4, zaI k 20 (u.2.1 8))] := hD
      have hP9 := hP.sub (ws' := [(hm, .inr (7, [.ref p0, .ref c0, .ref n0, .ref b0, .ref e0, .ref f0, .ref l1, .ref l2, .ref l3, .ref l4, .ref l5, .int (u.2.1 11 2), .int (msk (u.2.2.2 1)), .long (u.1 9 0)])), (c0, .inr (5, [.ref c1, .ref c2, .ref c3, .ref c4, .int (nI (u.2.2.1 0))])), (c1, zaI k 20 (u.2.1 5)), (c2, zaI k 20 (u.2.1 6)), (c3, zaI k 20 (u.2.1 7)), (c4, zaI k 20 (u.2.1 8))]) [0, 1, 2, 3, 4, 5] rfl
      have hD9 := hD.sub (ws' := [(hm, .inr (7, [.ref p0, .ref c0, .ref n0, .ref b0, .ref e0, .ref f0, .ref l1, .ref l2, .ref l3, .ref l4, .ref l5, .int (u.2.1 11 2), .int (msk (u.2.2.2 1)), .long (u.1 9 0)])), (c0, .inr (5, [.ref c1, .ref c2, .ref c3, .ref c4, .int (nI (u.2.2.1 0))])), (c1, zaI k 20 (u.2.1 5)), (c2, zaI k 20 (u.2.1 6)), (c3, zaI k 20 (u.2.1 7)), (c4, zaI k 20 (u.2.1 8))]) [0, 1, 2, 3, 4, 5] (by decide) rfl
      exact W.iret (v := -3) hx hb hr (fun t9 ht9 hW9 => ⟨⟨(-3), [(hm, .inr (7, [.ref p0, .ref c0, .ref n0, .ref b0, .ref e0, .ref f0, .ref l1, .ref l2, .ref l3, .ref l4, .ref l5, .int (u.2.1 11 2), .int (msk (u.2.2.2 1)), .long (u.1 9 0)])), (c0, .inr (5, [.ref c1, .ref c2, .ref c3, .ref c4, .int (nI (u.2.2.1 0))])), (c1, zaI k 20 (u.2.1 5)), (c2, zaI k 20 (u.2.1 6)), (c3, zaI k 20 (u.2.1 7)), (c4, zaI k 20 (u.2.1 8))], rfl, ⟨rfl, rfl⟩, by rw [ht9]; exact hP9, hD9⟩, hS.F ht9⟩) hS.2.2 dX8_addSegment_36
    · skip
      have c_2 := zb_e c_2
      first | exact absurd (c_2.symm.trans h0) (by decide) | exact absurd (c_2.symm.trans h1) (by decide)
set_option maxHeartbeats 4000000 in
set_option maxRecDepth 100000 in
theorem c_X8_clearScript (l : Launch) (D : va_G) (k : Nat → ClassId) (sz : Nat) (hm p0 c0 c1 c2 c3 c4 n0 b0 e0 f0 l1 l2 l3 l4 l5 : Nat) (u : zS)  : Met l yX8_clearScript wsX8_clearScript ({ frames := 1, cells := 0, slots := 0, locals := 21 } : Room) (va_Pc [.ref hm] (zPre D k [(hm, .inr (7, [.ref p0, .ref c0, .ref n0, .ref b0, .ref e0, .ref f0, .ref l1, .ref l2, .ref l3, .ref l4, .ref l5, .int (u.2.1 11 2), .int (msk (u.2.2.2 1)), .long (u.1 9 0)])), (c0, .inr (5, [.ref c1, .ref c2, .ref c3, .ref c4, .int (nI (u.2.2.1 0))]))] sz zX0)) (zQi D [(hm, .inr (7, [.ref p0, .ref c0, .ref n0, .ref b0, .ref e0, .ref f0, .ref l1, .ref l2, .ref l3, .ref l4, .ref l5, .int (u.2.1 11 2), .int (msk (u.2.2.2 1)), .long (u.1 9 0)])), (c0, .inr (5, [.ref c1, .ref c2, .ref c3, .ref c4, .int (nI (u.2.2.1 0))]))] sz (nI (u.2.2.1 0)) (fun w : va_W => w = [(hm, .inr (7, [.ref p0, .ref c0, .ref n0, .ref b0, .ref e0, .ref f0, .ref l1, .ref l2, .ref l3, .ref l4, .ref l5, .int (u.2.1 11 2), .int (msk (u.2.2.2 1)), .long (u.1 9 0)])), (c0, .inr (5, [.ref c1, .ref c2, .ref c3, .ref c4, .int 0]))])) 0 0 (va_A [(hm, .inr (7, [.ref p0, .ref c0, .ref n0, .ref b0, .ref e0, .ref f0, .ref l1, .ref l2, .ref l3, .ref l4, .ref l5, .int (u.2.1 11 2), .int (msk (u.2.2.2 1)), .long (u.1 9 0)])), (c0, .inr (5, [.ref c1, .ref c2, .ref c3, .ref c4, .int (nI (u.2.2.1 0))]))] sz) := by
  refine Met.ofW (cc := cX8_clearScript) (maxL := 1) (ret := (some .int)) (by decide) rfl ?_
  intro p e s m args below meth c s₁ B hml hv
  obtain ⟨rfl, hsz, hP, hK, hD0, hE⟩ := hv
  have hx := B.exec
  have hb := B.bytes
  have hr := B.returns
  have hts := atoms_spec (ws := wsX8_clearScript) B.pre
  have hown : s.vm.findClass RX8 = some m.cls := findClass_of_methodNamed B.named
  have hlocks := B.notSynchronized
  subst hsz
  have hD := hD0.self (sz := s.heap.size)
  delta zQi zB
  generalize hAe : va_A [(hm, .inr (7, [.ref p0, .ref c0, .ref n0, .ref b0, .ref e0, .ref f0, .ref l1, .ref l2, .ref l3, .ref l4, .ref l5, .int (u.2.1 11 2), .int (msk (u.2.2.2 1)), .long (u.1 9 0)])), (c0, .inr (5, [.ref c1, .ref c2, .ref c3, .ref c4, .int (nI (u.2.2.1 0))]))] s.heap.size = A at hD hE ⊢
  have hA : ∀ q : Nat, s.heap.size ≤ q → A q := fun q h => by rw [← hAe]; exact Or.inr h
  have hS : va_S A s.heap s.heap [] := va_S.rf
  have hl := lv_entry [.ref hm] (n := 1) (Nat.le_of_ble_eq_true rfl)
  rw [lg_entry_eq]
  generalize (lg_sl [.ref hm] ++ List.replicate (1 - (lg_sl [.ref hm]).length) Slot.unset).toArray = ls at hl ⊢
  have hl : lv_has ls 1 [(0, .ref hm)] := hl
  have hl19 : (Cond.fieldLink RX8 19 "InertialReference" "script" "LInertialReference$Script;").before #[Value.ref hm] s = true := zw hts 1 rfl
  have hinX8 : ∀ w ∈ u_ws RX8 TX8 14, w ∈ wsX8_clearScript := fun w h => List.mem_cons_of_mem _ (List.mem_append_left _ (List.mem_append_right _ h))
  refine lv_aload_n hx hb dX8_clearScript_0 rfl (lv_at hl 0 rfl) ?_
  refine va_get (D := D) (ci := 7) (v := .ref c0) (C := RX8) (T := TX8) (N := 14) hx hb hts hinX8 hown hK hP 0 rfl rfl 1 (Nat.le_of_ble_eq_true rfl) hl19 (fun _ h9 => h9) rfl dX8_clearScript_1 ?_
  refine z_calli0 (wc := [(c0, .inr (5, [.ref c1, .ref c2, .ref c3, .ref c4, .int (nI (u.2.2.1 0))]))]) (wr := [(hm, .inr (7, [.ref p0, .ref c0, .ref n0, .ref b0, .ref e0, .ref f0, .ref l1, .ref l2, .ref l3, .ref l4, .ref l5, .int (u.2.1 11 2), .int (msk (u.2.2.2 1)), .long (u.1 9 0)]))]) (va_runV (As := []) (rest := []) ⟨hx, hb, hml, hown, hts⟩ (c_X6_empty l D k s.heap.size c0 c1 c2 c3 c4 (nI (u.2.2.1 0))) (cwV 0 hts gX8_clearScript_X6_empty rfl rfl rfl (by decide +kernel) ⟨Nat.le_of_ble_eq_true rfl, Nat.le_of_ble_eq_true rfl⟩) (z_preV (wc := [(c0, .inr (5, [.ref c1, .ref c2, .ref c3, .ref c4, .int (nI (u.2.2.1 0))]))]) 1 5 hP hD hK [1] rfl rfl rfl rfl zb0 zp0) rfl rfl hl.1 rfl (lv_room (Nat.le_of_ble_eq_true rfl)) dX8_clearScript_4 ⟨Nat.zero_le _, Nat.zero_le _⟩) hP hD hS hA [1] [0] rfl rfl rfl (by decide) (fun w H locs hF hP hD hS => ?_)
  subst hF
  have hP : va_P D vwCl [(hm, .inr (7, [.ref p0, .ref c0, .ref n0, .ref b0, .ref e0, .ref f0, .ref l1, .ref l2, .ref l3, .ref l4, .ref l5, .int (u.2.1 11 2), .int (msk (u.2.2.2 1)), .long (u.1 9 0)])), (c0, .inr (5, [.ref c1, .ref c2, .ref c3, .ref c4, .int 0]))] H := hP
  have hD : va_D A [(hm, .inr (7, [.ref p0, .ref c0, .ref n0, .ref b0, .ref e0, .ref f0, .ref l1, .ref l2, .ref l3, .ref l4, .ref l5, .int (u.2.1 11 2), .int (msk (u.2.2.2 1)), .long (u.1 9 0)])), (c0, .inr (5, [.ref c1, .ref c2, .ref c3, .ref c4, .int 0]))] := hD
  have hP9 := hP.sub (ws' := [(hm, .inr (7, [.ref p0, .ref c0, .ref n0, .ref b0, .ref e0, .ref f0, .ref l1, .ref l2, .ref l3, .ref l4, .ref l5, .int (u.2.1 11 2), .int (msk (u.2.2.2 1)), .long (u.1 9 0)])), (c0, .inr (5, [.ref c1, .ref c2, .ref c3, .ref c4, .int 0]))]) [0, 1] rfl
  have hD9 := hD.sub (ws' := [(hm, .inr (7, [.ref p0, .ref c0, .ref n0, .ref b0, .ref e0, .ref f0, .ref l1, .ref l2, .ref l3, .ref l4, .ref l5, .int (u.2.1 11 2), .int (msk (u.2.2.2 1)), .long (u.1 9 0)])), (c0, .inr (5, [.ref c1, .ref c2, .ref c3, .ref c4, .int 0]))]) [0, 1] (by decide) rfl
  exact W.iret (v := (nI (u.2.2.1 0))) hx hb hr (fun t9 ht9 hW9 => ⟨⟨(nI (u.2.2.1 0)), [(hm, .inr (7, [.ref p0, .ref c0, .ref n0, .ref b0, .ref e0, .ref f0, .ref l1, .ref l2, .ref l3, .ref l4, .ref l5, .int (u.2.1 11 2), .int (msk (u.2.2.2 1)), .long (u.1 9 0)])), (c0, .inr (5, [.ref c1, .ref c2, .ref c3, .ref c4, .int 0]))], rfl, ⟨rfl, rfl⟩, by rw [ht9]; exact hP9, hD9⟩, hS.F ht9⟩) hS.2.2 dX8_clearScript_7
set_option maxHeartbeats 4000000 in
set_option maxRecDepth 100000 in
theorem c_X8_scriptTicks (l : Launch) (D : va_G) (k : Nat → ClassId) (sz : Nat) (hm p0 c0 c1 c2 c3 c4 n0 b0 e0 f0 l1 l2 l3 l4 l5 : Nat) (u : zS)  (hn : u.2.2.1 0 ≤ 20) : Met l yX8_scriptTicks wsX8_scriptTicks ({ frames := 1, cells := 0, slots := 0, locals := 22 } : Room) (va_Pc [.ref hm] (zPre D k [(hm, .inr (7, [.ref p0, .ref c0, .ref n0, .ref b0, .ref e0, .ref f0, .ref l1, .ref l2, .ref l3, .ref l4, .ref l5, .int (u.2.1 11 2), .int (msk (u.2.2.2 1)), .long (u.1 9 0)])), (c0, .inr (5, [.ref c1, .ref c2, .ref c3, .ref c4, .int (nI (u.2.2.1 0))])), (c1, zaI k 20 (u.2.1 5)), (c2, zaI k 20 (u.2.1 6)), (c3, zaI k 20 (u.2.1 7)), (c4, zaI k 20 (u.2.1 8))] sz zX0)) (zQi D [(hm, .inr (7, [.ref p0, .ref c0, .ref n0, .ref b0, .ref e0, .ref f0, .ref l1, .ref l2, .ref l3, .ref l4, .ref l5, .int (u.2.1 11 2), .int (msk (u.2.2.2 1)), .long (u.1 9 0)])), (c0, .inr (5, [.ref c1, .ref c2, .ref c3, .ref c4, .int (nI (u.2.2.1 0))])), (c1, zaI k 20 (u.2.1 5)), (c2, zaI k 20 (u.2.1 6)), (c3, zaI k 20 (u.2.1 7)), (c4, zaI k 20 (u.2.1 8))] sz (sumI (u.2.1 5) (u.2.2.1 0)) (fun w : va_W => w = [(hm, .inr (7, [.ref p0, .ref c0, .ref n0, .ref b0, .ref e0, .ref f0, .ref l1, .ref l2, .ref l3, .ref l4, .ref l5, .int (u.2.1 11 2), .int (msk (u.2.2.2 1)), .long (u.1 9 0)])), (c0, .inr (5, [.ref c1, .ref c2, .ref c3, .ref c4, .int (nI (u.2.2.1 0))])), (c1, zaI k 20 (u.2.1 5)), (c2, zaI k 20 (u.2.1 6)), (c3, zaI k 20 (u.2.1 7)), (c4, zaI k 20 (u.2.1 8))])) 0 0 (va_A [(hm, .inr (7, [.ref p0, .ref c0, .ref n0, .ref b0, .ref e0, .ref f0, .ref l1, .ref l2, .ref l3, .ref l4, .ref l5, .int (u.2.1 11 2), .int (msk (u.2.2.2 1)), .long (u.1 9 0)])), (c0, .inr (5, [.ref c1, .ref c2, .ref c3, .ref c4, .int (nI (u.2.2.1 0))])), (c1, zaI k 20 (u.2.1 5)), (c2, zaI k 20 (u.2.1 6)), (c3, zaI k 20 (u.2.1 7)), (c4, zaI k 20 (u.2.1 8))] sz) := by
  refine Met.ofW (cc := cX8_scriptTicks) (maxL := 1) (ret := (some .int)) (by decide) rfl ?_
  intro p e s m args below meth c s₁ B hml hv
  obtain ⟨rfl, hsz, hP, hK, hD0, hE⟩ := hv
  have hx := B.exec
  have hb := B.bytes
  have hr := B.returns
  have hts := atoms_spec (ws := wsX8_scriptTicks) B.pre
  have hown : s.vm.findClass RX8 = some m.cls := findClass_of_methodNamed B.named
  have hlocks := B.notSynchronized
  subst hsz
  have hD := hD0.self (sz := s.heap.size)
  delta zQi zB
  generalize hAe : va_A [(hm, .inr (7, [.ref p0, .ref c0, .ref n0, .ref b0, .ref e0, .ref f0, .ref l1, .ref l2, .ref l3, .ref l4, .ref l5, .int (u.2.1 11 2), .int (msk (u.2.2.2 1)), .long (u.1 9 0)])), (c0, .inr (5, [.ref c1, .ref c2, .ref c3, .ref c4, .int (nI (u.2.2.1 0))])), (c1, zaI k 20 (u.2.1 5)), (c2, zaI k 20 (u.2.1 6)), (c3, zaI k 20 (u.2.1 7)), (c4, zaI k 20 (u.2.1 8))] s.heap.size = A at hD hE ⊢
  have hA : ∀ q : Nat, s.heap.size ≤ q → A q := fun q h => by rw [← hAe]; exact Or.inr h
  have hS : va_S A s.heap s.heap [] := va_S.rf
  have hl := lv_entry [.ref hm] (n := 1) (Nat.le_of_ble_eq_true rfl)
  rw [lg_entry_eq]
  generalize (lg_sl [.ref hm] ++ List.replicate (1 - (lg_sl [.ref hm]).length) Slot.unset).toArray = ls at hl ⊢
  have hl : lv_has ls 1 [(0, .ref hm)] := hl
  have hl19 : (Cond.fieldLink RX8 19 "InertialReference" "script" "LInertialReference$Script;").before #[Value.ref hm] s = true := zw hts 1 rfl
  have hinX8 : ∀ w ∈ u_ws RX8 TX8 14, w ∈ wsX8_scriptTicks := fun w h => List.mem_cons_of_mem _ (List.mem_append_left _ (List.mem_append_right _ h))
  refine lv_aload_n hx hb dX8_scriptTicks_0 rfl (lv_at hl 0 rfl) ?_
  refine va_get (D := D) (ci := 7) (v := .ref c0) (C := RX8) (T := TX8) (N := 14) hx hb hts hinX8 hown hK hP 0 rfl rfl 1 (Nat.le_of_ble_eq_true rfl) hl19 (fun _ h9 => h9) rfl dX8_scriptTicks_1 ?_
  refine z_calli0 (wc := [(c0, .inr (5, [.ref c1, .ref c2, .ref c3, .ref c4, .int (nI (u.2.2.1 0))])), (c1, zaI k 20 (u.2.1 5)), (c2, zaI k 20 (u.2.1 6)), (c3, zaI k 20 (u.2.1 7)), (c4, zaI k 20 (u.2.1 8))]) (wr := [(hm, .inr (7, [.ref p0, .ref c0, .ref n0, .ref b0, .ref e0, .ref f0, .ref l1, .ref l2, .ref l3, .ref l4, .ref l5, .int (u.2.1 11 2), .int (msk (u.2.2.2 1)), .long (u.1 9 0)]))]) (va_runV (As := []) (rest := []) ⟨hx, hb, hml, hown, hts⟩ (c_X6_ticksLeft l D k s.heap.size c0 c1 c2 c3 c4 (u.2.2.1 0) (u.2.1 5) (u.2.1 6) (u.2.1 7) (u.2.1 8) hn) (cwV 0 hts gX8_scriptTicks_X6_ticksLeft rfl rfl rfl (by decide +kernel) ⟨Nat.le_of_ble_eq_true rfl, Nat.le_of_ble_eq_true rfl⟩) (z_preV (wc := [(c0, .inr (5, [.ref c1, .ref c2, .ref c3, .ref c4, .int (nI (u.2.2.1 0))])), (c1, zaI k 20 (u.2.1 5)), (c2, zaI k 20 (u.2.1 6)), (c3, zaI k 20 (u.2.1 7)), (c4, zaI k 20 (u.2.1 8))]) 1 5 hP hD hK [1, 2, 3, 4, 5] rfl rfl rfl rfl zb0 zp0) rfl rfl hl.1 rfl (lv_room (Nat.le_of_ble_eq_true rfl)) dX8_scriptTicks_4 ⟨Nat.zero_le _, Nat.zero_le _⟩) hP hD hS hA [1, 2, 3, 4, 5] [0] rfl rfl rfl (by decide) (fun w H locs hF hP hD hS => ?_)
  subst hF
  have hP : va_P D vwCl [(hm, .inr (7, [.ref p0, .ref c0, .ref n0, .ref b0, .ref e0, .ref f0, .ref l1, .ref l2, .ref l3, .ref l4, .ref l5, .int (u.2.1 11 2), .int (msk (u.2.2.2 1)), .long (u.1 9 0)])), (c0, .inr (5, [.ref c1, .ref c2, .ref c3, .ref c4, .int (nI (u.2.2.1 0))])), (c1, zaI k 20 (u.2.1 5)), (c2, zaI k 20 (u.2.1 6)), (c3, zaI k 20 (u.2.1 7)), (c4, zaI k 20 (u.2.1 8))] H := hP
  have hD : va_D A [(hm, .inr (7, [.ref p0, .ref c0, .ref n0, .ref b0, .ref e0, .ref f0, .ref l1, .ref l2, .ref l3, .ref l4, .ref l5, .int (u.2.1 11 2), .int (msk (u.2.2.2 1)), .long (u.1 9 0)])), (c0, .inr (5, [.ref c1, .ref c2, .ref c3, .ref c4, .int (nI (u.2.2.1 0))])), (c1, zaI k 20 (u.2.1 5)), (c2, zaI k 20 (u.2.1 6)), (c3, zaI k 20 (u.2.1 7)), (c4, zaI k 20 (u.2.1 8))] := hD
  have hP9 := hP.sub (ws' := [(hm, .inr (7, [.ref p0, .ref c0, .ref n0, .ref b0, .ref e0, .ref f0, .ref l1, .ref l2, .ref l3, .ref l4, .ref l5, .int (u.2.1 11 2), .int (msk (u.2.2.2 1)), .long (u.1 9 0)])), (c0, .inr (5, [.ref c1, .ref c2, .ref c3, .ref c4, .int (nI (u.2.2.1 0))])), (c1, zaI k 20 (u.2.1 5)), (c2, zaI k 20 (u.2.1 6)), (c3, zaI k 20 (u.2.1 7)), (c4, zaI k 20 (u.2.1 8))]) [0, 1, 2, 3, 4, 5] rfl
  have hD9 := hD.sub (ws' := [(hm, .inr (7, [.ref p0, .ref c0, .ref n0, .ref b0, .ref e0, .ref f0, .ref l1, .ref l2, .ref l3, .ref l4, .ref l5, .int (u.2.1 11 2), .int (msk (u.2.2.2 1)), .long (u.1 9 0)])), (c0, .inr (5, [.ref c1, .ref c2, .ref c3, .ref c4, .int (nI (u.2.2.1 0))])), (c1, zaI k 20 (u.2.1 5)), (c2, zaI k 20 (u.2.1 6)), (c3, zaI k 20 (u.2.1 7)), (c4, zaI k 20 (u.2.1 8))]) [0, 1, 2, 3, 4, 5] (by decide) rfl
  exact W.iret (v := sumI (u.2.1 5) (u.2.2.1 0)) hx hb hr (fun t9 ht9 hW9 => ⟨⟨(sumI (u.2.1 5) (u.2.2.1 0)), [(hm, .inr (7, [.ref p0, .ref c0, .ref n0, .ref b0, .ref e0, .ref f0, .ref l1, .ref l2, .ref l3, .ref l4, .ref l5, .int (u.2.1 11 2), .int (msk (u.2.2.2 1)), .long (u.1 9 0)])), (c0, .inr (5, [.ref c1, .ref c2, .ref c3, .ref c4, .int (nI (u.2.2.1 0))])), (c1, zaI k 20 (u.2.1 5)), (c2, zaI k 20 (u.2.1 6)), (c3, zaI k 20 (u.2.1 7)), (c4, zaI k 20 (u.2.1 8))], rfl, ⟨rfl, rfl⟩, by rw [ht9]; exact hP9, hD9⟩, hS.F ht9⟩) hS.2.2 dX8_scriptTicks_7
set_option maxHeartbeats 4000000 in
set_option maxRecDepth 100000 in
theorem c_X8_turnTruth_ok (l : Launch) (D : va_G) (k : Nat → ClassId) (sz : Nat) (hm p0 p1 p2 p3 p4 p5 p6 p7 p8 c0 n0 b0 e0 f0 l1 l2 l3 l4 l5 : Nat) (u : zS) (tS tI tR : Nat → Int64) (x y z : Int32) (h0 : ((zin x (-4000000) 4000000 && (zin y (-4000000) 4000000 && zin z (-4000000) 4000000))) = true) : Met l yX8_turnTruth wsX8_turnTruth ({ frames := 3, cells := 0, slots := 0, locals := 92 } : Room) (va_Pc [.ref hm, .int x, .int y, .int z] (zPre D k [(hm, .inr (7, [.ref p0, .ref c0, .ref n0, .ref b0, .ref e0, .ref f0, .ref l1, .ref l2, .ref l3, .ref l4, .ref l5, .int (u.2.1 11 2), .int (msk (u.2.2.2 1)), .long (u.1 9 0)])), (p0, .inr (0, [.ref p1, .ref p2, .ref p3, .ref p4, .ref p5])), (p1, zaJ k 4 (u.1 0)), (p2, zaJ k 4 tS), (p3, zaJ k 4 tI), (p4, zaJ k 4 tR), (p5, zaG k 3 (gr3 p6 p7 p8)), (p6, zaJ k 3 (mrow0 (u.1 0))), (p7, zaJ k 3 (mrow1 (u.1 0))), (p8, zaJ k 3 (mrow2 (u.1 0)))] sz zX0)) (zQi D [(hm, .inr (7, [.ref p0, .ref c0, .ref n0, .ref b0, .ref e0, .ref f0, .ref l1, .ref l2, .ref l3, .ref l4, .ref l5, .int (u.2.1 11 2), .int (msk (u.2.2.2 1)), .long (u.1 9 0)])), (p0, .inr (0, [.ref p1, .ref p2, .ref p3, .ref p4, .ref p5])), (p1, zaJ k 4 (u.1 0)), (p2, zaJ k 4 tS), (p3, zaJ k 4 tI), (p4, zaJ k 4 tR), (p5, zaG k 3 (gr3 p6 p7 p8)), (p6, zaJ k 3 (mrow0 (u.1 0))), (p7, zaJ k 3 (mrow1 (u.1 0))), (p8, zaJ k 3 (mrow2 (u.1 0)))] sz 0 (fun w : va_W => ∃ (tS2 tR2 : Nat → Int64), w = [(hm, .inr (7, [.ref p0, .ref c0, .ref n0, .ref b0, .ref e0, .ref f0, .ref l1, .ref l2, .ref l3, .ref l4, .ref l5, .int (u.2.1 11 2), .int (msk (u.2.2.2 1)), .long (u.1 9 0)])), (p0, .inr (0, [.ref p1, .ref p2, .ref p3, .ref p4, .ref p5])), (p1, zaJ k 4 (qturn (u.1 0) x.toInt64 y.toInt64 z.toInt64)), (p2, zaJ k 4 tS2), (p3, zaJ k 4 tI), (p4, zaJ k 4 tR2), (p5, zaG k 3 (gr3 p6 p7 p8)), (p6, zaJ k 3 (mrow0 (qturn (u.1 0) x.toInt64 y.toInt64 z.toInt64))), (p7, zaJ k 3 (mrow1 (qturn (u.1 0) x.toInt64 y.toInt64 z.toInt64))), (p8, zaJ k 3 (mrow2 (qturn (u.1 0) x.toInt64 y.toInt64 z.toInt64)))])) 0 0 (va_A [(hm, .inr (7, [.ref p0, .ref c0, .ref n0, .ref b0, .ref e0, .ref f0, .ref l1, .ref l2, .ref l3, .ref l4, .ref l5, .int (u.2.1 11 2), .int (msk (u.2.2.2 1)), .long (u.1 9 0)])), (p0, .inr (0, [.ref p1, .ref p2, .ref p3, .ref p4, .ref p5])), (p1, zaJ k 4 (u.1 0)), (p2, zaJ k 4 tS), (p3, zaJ k 4 tI), (p4, zaJ k 4 tR), (p5, zaG k 3 (gr3 p6 p7 p8)), (p6, zaJ k 3 (mrow0 (u.1 0))), (p7, zaJ k 3 (mrow1 (u.1 0))), (p8, zaJ k 3 (mrow2 (u.1 0)))] sz) := by
  refine Met.ofW (cc := cX8_turnTruth) (maxL := 4) (ret := (some .int)) (by decide) rfl ?_
  intro p e s m args below meth c s₁ B hml hv
  obtain ⟨rfl, hsz, hP, hK, hD0, hE⟩ := hv
  have hx := B.exec
  have hb := B.bytes
  have hr := B.returns
  have hts := atoms_spec (ws := wsX8_turnTruth) B.pre
  have hown : s.vm.findClass RX8 = some m.cls := findClass_of_methodNamed B.named
  have hlocks := B.notSynchronized
  subst hsz
  have hD := hD0.self (sz := s.heap.size)
  delta zQi zB
  generalize hAe : va_A [(hm, .inr (7, [.ref p0, .ref c0, .ref n0, .ref b0, .ref e0, .ref f0, .ref l1, .ref l2, .ref l3, .ref l4, .ref l5, .int (u.2.1 11 2), .int (msk (u.2.2.2 1)), .long (u.1 9 0)])), (p0, .inr (0, [.ref p1, .ref p2, .ref p3, .ref p4, .ref p5])), (p1, zaJ k 4 (u.1 0)), (p2, zaJ k 4 tS), (p3, zaJ k 4 tI), (p4, zaJ k 4 tR), (p5, zaG k 3 (gr3 p6 p7 p8)), (p6, zaJ k 3 (mrow0 (u.1 0))), (p7, zaJ k 3 (mrow1 (u.1 0))), (p8, zaJ k 3 (mrow2 (u.1 0)))] s.heap.size = A at hD hE ⊢
  have hA : ∀ q : Nat, s.heap.size ≤ q → A q := fun q h => by rw [← hAe]; exact Or.inr h
  have hS : va_S A s.heap s.heap [] := va_S.rf
  have hl := lv_entry [.ref hm, .int x, .int y, .int z] (n := 4) (Nat.le_of_ble_eq_true rfl)
  rw [lg_entry_eq]
  generalize (lg_sl [.ref hm, .int x, .int y, .int z] ++ List.replicate (4 - (lg_sl [.ref hm, .int x, .int y, .int z]).length) Slot.unset).toArray = ls at hl ⊢
  have hl : lv_has ls 4 [(0, .ref hm), (1, .int x), (2, .int y), (3, .int z)] := hl
  have hl10 : (Cond.fieldLink RX8 10 "InertialReference" "trueAttitude" "LInertialReference$Attitude;").before #[Value.ref hm, Value.int x, Value.int y, Value.int z] s = true := zw hts 1 rfl
  have hinX8 : ∀ w ∈ u_ws RX8 TX8 14, w ∈ wsX8_turnTruth := fun w h => List.mem_cons_of_mem _ (List.mem_append_left _ (List.mem_append_right _ h))
  refine lv_iload_n hx hb dX8_turnTruth_0 rfl (lv_at hl 1 rfl) ?_
  refine lv_iload_n hx hb dX8_turnTruth_1 rfl (lv_at hl 2 rfl) ?_
  refine lv_iload_n hx hb dX8_turnTruth_2 rfl (lv_at hl 3 rfl) ?_
  refine z_calli0 (wc := []) (wr := [(hm, .inr (7, [.ref p0, .ref c0, .ref n0, .ref b0, .ref e0, .ref f0, .ref l1, .ref l2, .ref l3, .ref l4, .ref l5, .int (u.2.1 11 2), .int (msk (u.2.2.2 1)), .long (u.1 9 0)])), (p0, .inr (0, [.ref p1, .ref p2, .ref p3, .ref p4, .ref p5])), (p1, zaJ k 4 (u.1 0)), (p2, zaJ k 4 tS), (p3, zaJ k 4 tI), (p4, zaJ k 4 tR), (p5, zaG k 3 (gr3 p6 p7 p8)), (p6, zaJ k 3 (mrow0 (u.1 0))), (p7, zaJ k 3 (mrow1 (u.1 0))), (p8, zaJ k 3 (mrow2 (u.1 0)))]) (va_runS (As := [.int x, .int y, .int z]) (rest := []) ⟨hx, hb, hml, hown, hts⟩ (c_X8_isTurn l D k s.heap.size x y z) (va_cwS 3 hts gX8_turnTruth_X8_isTurn rfl rfl rfl (by decide +kernel) ⟨Nat.le_of_ble_eq_true rfl, Nat.le_of_ble_eq_true rfl⟩) (z_preS (wc := []) hP hD hK [] rfl rfl zb0 zp0) rfl rfl hl.1 rfl (lv_room (Nat.le_of_ble_eq_true rfl)) dX8_turnTruth_3 ⟨Nat.zero_le _, Nat.zero_le _⟩) hP hD hS hA [] [0, 1, 2, 3, 4, 5, 6, 7, 8, 9] rfl rfl rfl (by decide) (fun w H locs hF hP hD hS => ?_)
  subst hF
  have hP : va_P D vwCl [(hm, .inr (7, [.ref p0, .ref c0, .ref n0, .ref b0, .ref e0, .ref f0, .ref l1, .ref l2, .ref l3, .ref l4, .ref l5, .int (u.2.1 11 2), .int (msk (u.2.2.2 1)), .long (u.1 9 0)])), (p0, .inr (0, [.ref p1, .ref p2, .ref p3, .ref p4, .ref p5])), (p1, zaJ k 4 (u.1 0)), (p2, zaJ k 4 tS), (p3, zaJ k 4 tI), (p4, zaJ k 4 tR), (p5, zaG k 3 (gr3 p6 p7 p8)), (p6, zaJ k 3 (mrow0 (u.1 0))), (p7, zaJ k 3 (mrow1 (u.1 0))), (p8, zaJ k 3 (mrow2 (u.1 0)))] H := hP
  have hD : va_D A [(hm, .inr (7, [.ref p0, .ref c0, .ref n0, .ref b0, .ref e0, .ref f0, .ref l1, .ref l2, .ref l3, .ref l4, .ref l5, .int (u.2.1 11 2), .int (msk (u.2.2.2 1)), .long (u.1 9 0)])), (p0, .inr (0, [.ref p1, .ref p2, .ref p3, .ref p4, .ref p5])), (p1, zaJ k 4 (u.1 0)), (p2, zaJ k 4 tS), (p3, zaJ k 4 tI), (p4, zaJ k 4 tR), (p5, zaG k 3 (gr3 p6 p7 p8)), (p6, zaJ k 3 (mrow0 (u.1 0))), (p7, zaJ k 3 (mrow1 (u.1 0))), (p8, zaJ k 3 (mrow2 (u.1 0)))] := hD
  refine lv_if_ne (tgt := 12) hx hb dX8_turnTruth_6 (by decide) (fun c_1 => ?_) (fun c_1 => ?_)
  · skip
    have c_1 := zb_n c_1
    refine lv_aload_n hx hb dX8_turnTruth_12 rfl (lv_at hl 0 rfl) ?_
    refine va_get (D := D) (ci := 7) (v := .ref p0) (C := RX8) (T := TX8) (N := 14) hx hb hts hinX8 hown hK hP 0 rfl rfl 0 (Nat.le_of_ble_eq_true rfl) hl10 (fun _ h9 => h9) rfl dX8_turnTruth_13 ?_
    refine lv_iload_n hx hb dX8_turnTruth_16 rfl (lv_at hl 1 rfl) ?_
    refine lv_i2l (v := x.toInt64) hx hb dX8_turnTruth_17 rfl ?_
    refine lv_iload_n hx hb dX8_turnTruth_18 rfl (lv_at hl 2 rfl) ?_
    refine lv_i2l (v := y.toInt64) hx hb dX8_turnTruth_19 rfl ?_
    refine lv_iload_n hx hb dX8_turnTruth_20 rfl (lv_at hl 3 rfl) ?_
    refine lv_i2l (v := z.toInt64) hx hb dX8_turnTruth_21 rfl ?_
    refine z_callv0 (wc := [(p0, .inr (0, [.ref p1, .ref p2, .ref p3, .ref p4, .ref p5])), (p1, zaJ k 4 (u.1 0)), (p2, zaJ k 4 tS), (p3, zaJ k 4 tI), (p4, zaJ k 4 tR), (p5, zaG k 3 (gr3 p6 p7 p8)), (p6, zaJ k 3 (mrow0 (u.1 0))), (p7, zaJ k 3 (mrow1 (u.1 0))), (p8, zaJ k 3 (mrow2 (u.1 0)))]) (wr := [(hm, .inr (7, [.ref p0, .ref c0, .ref n0, .ref b0, .ref e0, .ref f0, .ref l1, .ref l2, .ref l3, .ref l4, .ref l5, .int (u.2.1 11 2), .int (msk (u.2.2.2 1)), .long (u.1 9 0)]))]) (va_runV (As := [.long x.toInt64, .long y.toInt64, .long z.toInt64]) (rest := []) ⟨hx, hb, hml, hown, hts⟩ (c_X0_turn l D k H.size p0 p1 p2 p3 p4 p5 p6 p7 p8 (u.1 0) tS tI tR (mrow0 (u.1 0)) (mrow1 (u.1 0)) (mrow2 (u.1 0)) x.toInt64 y.toInt64 z.toInt64) (cwV 3 hts gX8_turnTruth_X0_turn rfl rfl rfl (by decide +kernel) ⟨Nat.le_of_ble_eq_true rfl, Nat.le_of_ble_eq_true rfl⟩) (z_preV (wc := [(p0, .inr (0, [.ref p1, .ref p2, .ref p3, .ref p4, .ref p5])), (p1, zaJ k 4 (u.1 0)), (p2, zaJ k 4 tS), (p3, zaJ k 4 tI), (p4, zaJ k 4 tR), (p5, zaG k 3 (gr3 p6 p7 p8)), (p6, zaJ k 3 (mrow0 (u.1 0))), (p7, zaJ k 3 (mrow1 (u.1 0))), (p8, zaJ k 3 (mrow2 (u.1 0)))]) 1 0 hP hD hK [1, 2, 3, 4, 5, 6, 7, 8, 9] rfl rfl rfl rfl zb0 zp0) rfl rfl hl.1 rfl (lv_room (Nat.le_of_ble_eq_true rfl)) dX8_turnTruth_22 ⟨Nat.zero_le _, Nat.zero_le _⟩) hP hD hS hA [1, 2, 3, 4, 5, 6, 7, 8, 9] [0] rfl rfl rfl (by decide) (fun w H locs hF hP hD hS => ?_)
    obtain ⟨fS2_2, fR2_3, rfl⟩ := hF
    have hP : va_P D vwCl [(hm, .inr (7, [.ref p0, .ref c0, .ref n0, .ref b0, .ref e0, .ref f0, .ref l1, .ref l2, .ref l3, .ref l4, .ref l5, .int (u.2.1 11 2), .int (msk (u.2.2.2 1)), .long (u.1 9 0)])), (p0, .inr (0, [.ref p1, .ref p2, .ref p3, .ref p4, .ref p5])), (p1, zaJ k 4 (qturn (u.1 0) x.toInt64 y.toInt64 z.toInt64)), (p2, zaJ k 4 fS2_2), (p3, zaJ k 4 tI), (p4, zaJ k 4 fR2_3), (p5, zaG k 3 (gr3 p6 p7 p8)), (p6, zaJ k 3 (mrow0 (qturn (u.1 0) x.toInt64 y.toInt64 z.toInt64))), (p7, zaJ k 3 (mrow1 (qturn (u.1 0) x.toInt64 y.toInt64 z.toInt64))), (p8, zaJ k 3 (mrow2 (qturn (u.1 0) x.toInt64 y.toInt64 z.toInt64)))] H := hP
    have hD : va_D A [(hm, .inr (7, [.ref p0, .ref c0, .ref n0, .ref b0, .ref e0, .ref f0, .ref l1, .ref l2, .ref l3, .ref l4, .ref l5, .int (u.2.1 11 2), .int (msk (u.2.2.2 1)), .long (u.1 9 0)])), (p0, .inr (0, [.ref p1, .ref p2, .ref p3, .ref p4, .ref p5])), (p1, zaJ k 4 (qturn (u.1 0) x.toInt64 y.toInt64 z.toInt64)), (p2, zaJ k 4 fS2_2), (p3, zaJ k 4 tI), (p4, zaJ k 4 fR2_3), (p5, zaG k 3 (gr3 p6 p7 p8)), (p6, zaJ k 3 (mrow0 (qturn (u.1 0) x.toInt64 y.toInt64 z.toInt64))), (p7, zaJ k 3 (mrow1 (qturn (u.1 0) x.toInt64 y.toInt64 z.toInt64))), (p8, zaJ k 3 (mrow2 (qturn (u.1 0) x.toInt64 y.toInt64 z.toInt64)))] := hD
    refine lv_iconst (v := 0) hx hb dX8_turnTruth_25 (by decide) ?_
    have hP9 := hP.sub (ws' := [(hm, .inr (7, [.ref p0, .ref c0, .ref n0, .ref b0, .ref e0, .ref f0, .ref l1, .ref l2, .ref l3, .ref l4, .ref l5, .int (u.2.1 11 2), .int (msk (u.2.2.2 1)), .long (u.1 9 0)])), (p0, .inr (0, [.ref p1, .ref p2, .ref p3, .ref p4, .ref p5])), (p1, zaJ k 4 (qturn (u.1 0) x.toInt64 y.toInt64 z.toInt64)), (p2, zaJ k 4 fS2_2), (p3, zaJ k 4 tI), (p4, zaJ k 4 fR2_3), (p5, zaG k 3 (gr3 p6 p7 p8)), (p6, zaJ k 3 (mrow0 (qturn (u.1 0) x.toInt64 y.toInt64 z.toInt64))), (p7, zaJ k 3 (mrow1 (qturn (u.1 0) x.toInt64 y.toInt64 z.toInt64))), (p8, zaJ k 3 (mrow2 (qturn (u.1 0) x.toInt64 y.toInt64 z.toInt64)))]) [0, 1, 2, 3, 4, 5, 6, 7, 8, 9] rfl
    have hD9 := hD.sub (ws' := [(hm, .inr (7, [.ref p0, .ref c0, .ref n0, .ref b0, .ref e0, .ref f0, .ref l1, .ref l2, .ref l3, .ref l4, .ref l5, .int (u.2.1 11 2), .int (msk (u.2.2.2 1)), .long (u.1 9 0)])), (p0, .inr (0, [.ref p1, .ref p2, .ref p3, .ref p4, .ref p5])), (p1, zaJ k 4 (qturn (u.1 0) x.toInt64 y.toInt64 z.toInt64)), (p2, zaJ k 4 fS2_2), (p3, zaJ k 4 tI), (p4, zaJ k 4 fR2_3), (p5, zaG k 3 (gr3 p6 p7 p8)), (p6, zaJ k 3 (mrow0 (qturn (u.1 0) x.toInt64 y.toInt64 z.toInt64))), (p7, zaJ k 3 (mrow1 (qturn (u.1 0) x.toInt64 y.toInt64 z.toInt64))), (p8, zaJ k 3 (mrow2 (qturn (u.1 0) x.toInt64 y.toInt64 z.toInt64)))]) [0, 1, 2, 3, 4, 5, 6, 7, 8, 9] (by decide) rfl
    exact W.iret (v := 0) hx hb hr (fun t9 ht9 hW9 => ⟨⟨0, [(hm, .inr (7, [.ref p0, .ref c0, .ref n0, .ref b0, .ref e0, .ref f0, .ref l1, .ref l2, .ref l3, .ref l4, .ref l5, .int (u.2.1 11 2), .int (msk (u.2.2.2 1)), .long (u.1 9 0)])), (p0, .inr (0, [.ref p1, .ref p2, .ref p3, .ref p4, .ref p5])), (p1, zaJ k 4 (qturn (u.1 0) x.toInt64 y.toInt64 z.toInt64)), (p2, zaJ k 4 fS2_2), (p3, zaJ k 4 tI), (p4, zaJ k 4 fR2_3), (p5, zaG k 3 (gr3 p6 p7 p8)), (p6, zaJ k 3 (mrow0 (qturn (u.1 0) x.toInt64 y.toInt64 z.toInt64))), (p7, zaJ k 3 (mrow1 (qturn (u.1 0) x.toInt64 y.toInt64 z.toInt64))), (p8, zaJ k 3 (mrow2 (qturn (u.1 0) x.toInt64 y.toInt64 z.toInt64)))], rfl, ⟨rfl, ⟨fS2_2, fR2_3, rfl⟩⟩, by rw [ht9]; exact hP9, hD9⟩, hS.F ht9⟩) hS.2.2 dX8_turnTruth_26
  · skip
    have c_1 := zb_e c_1
    first | exact absurd (c_1.symm.trans h0) (by decide)
set_option maxHeartbeats 4000000 in
set_option maxRecDepth 100000 in
theorem c_X8_turnTruth_no (l : Launch) (D : va_G) (k : Nat → ClassId) (sz : Nat) (hm p0 c0 n0 b0 e0 f0 l1 l2 l3 l4 l5 : Nat) (u : zS) (x y z : Int32) (hno : ((zin x (-4000000) 4000000 && (zin y (-4000000) 4000000 && zin z (-4000000) 4000000))) = false) : Met l yX8_turnTruth wsX8_turnTruth ({ frames := 2, cells := 0, slots := 0, locals := 45 } : Room) (va_Pc [.ref hm, .int x, .int y, .int z] (zPre D k [(hm, .inr (7, [.ref p0, .ref c0, .ref n0, .ref b0, .ref e0, .ref f0, .ref l1, .ref l2, .ref l3, .ref l4, .ref l5, .int (u.2.1 11 2), .int (msk (u.2.2.2 1)), .long (u.1 9 0)]))] sz zX0)) (zQi D [(hm, .inr (7, [.ref p0, .ref c0, .ref n0, .ref b0, .ref e0, .ref f0, .ref l1, .ref l2, .ref l3, .ref l4, .ref l5, .int (u.2.1 11 2), .int (msk (u.2.2.2 1)), .long (u.1 9 0)]))] sz (-2) (fun w : va_W => w = [(hm, .inr (7, [.ref p0, .ref c0, .ref n0, .ref b0, .ref e0, .ref f0, .ref l1, .ref l2, .ref l3, .ref l4, .ref l5, .int (u.2.1 11 2), .int (msk (u.2.2.2 1)), .long (u.1 9 0)]))])) 0 0 (va_A [(hm, .inr (7, [.ref p0, .ref c0, .ref n0, .ref b0, .ref e0, .ref f0, .ref l1, .ref l2, .ref l3, .ref l4, .ref l5, .int (u.2.1 11 2), .int (msk (u.2.2.2 1)), .long (u.1 9 0)]))] sz) := by
  refine Met.ofW (cc := cX8_turnTruth) (maxL := 4) (ret := (some .int)) (by decide) rfl ?_
  intro p e s m args below meth c s₁ B hml hv
  obtain ⟨rfl, hsz, hP, hK, hD0, hE⟩ := hv
  have hx := B.exec
  have hb := B.bytes
  have hr := B.returns
  have hts := atoms_spec (ws := wsX8_turnTruth) B.pre
  have hown : s.vm.findClass RX8 = some m.cls := findClass_of_methodNamed B.named
  have hlocks := B.notSynchronized
  subst hsz
  have hD := hD0.self (sz := s.heap.size)
  delta zQi zB
  generalize hAe : va_A [(hm, .inr (7, [.ref p0, .ref c0, .ref n0, .ref b0, .ref e0, .ref f0, .ref l1, .ref l2, .ref l3, .ref l4, .ref l5, .int (u.2.1 11 2), .int (msk (u.2.2.2 1)), .long (u.1 9 0)]))] s.heap.size = A at hD hE ⊢
  have hA : ∀ q : Nat, s.heap.size ≤ q → A q := fun q h => by rw [← hAe]; exact Or.inr h
  have hS : va_S A s.heap s.heap [] := va_S.rf
  have hl := lv_entry [.ref hm, .int x, .int y, .int z] (n := 4) (Nat.le_of_ble_eq_true rfl)
  rw [lg_entry_eq]
  generalize (lg_sl [.ref hm, .int x, .int y, .int z] ++ List.replicate (4 - (lg_sl [.ref hm, .int x, .int y, .int z]).length) Slot.unset).toArray = ls at hl ⊢
  have hl : lv_has ls 4 [(0, .ref hm), (1, .int x), (2, .int y), (3, .int z)] := hl
  refine lv_iload_n hx hb dX8_turnTruth_0 rfl (lv_at hl 1 rfl) ?_
  refine lv_iload_n hx hb dX8_turnTruth_1 rfl (lv_at hl 2 rfl) ?_
  refine lv_iload_n hx hb dX8_turnTruth_2 rfl (lv_at hl 3 rfl) ?_
  refine z_calli0 (wc := []) (wr := [(hm, .inr (7, [.ref p0, .ref c0, .ref n0, .ref b0, .ref e0, .ref f0, .ref l1, .ref l2, .ref l3, .ref l4, .ref l5, .int (u.2.1 11 2), .int (msk (u.2.2.2 1)), .long (u.1 9 0)]))]) (va_runS (As := [.int x, .int y, .int z]) (rest := []) ⟨hx, hb, hml, hown, hts⟩ (c_X8_isTurn l D k s.heap.size x y z) (va_cwS 3 hts gX8_turnTruth_X8_isTurn rfl rfl rfl (by decide +kernel) ⟨Nat.le_of_ble_eq_true rfl, Nat.le_of_ble_eq_true rfl⟩) (z_preS (wc := []) hP hD hK [] rfl rfl zb0 zp0) rfl rfl hl.1 rfl (lv_room (Nat.le_of_ble_eq_true rfl)) dX8_turnTruth_3 ⟨Nat.zero_le _, Nat.zero_le _⟩) hP hD hS hA [] [0] rfl rfl rfl (by decide) (fun w H locs hF hP hD hS => ?_)
  subst hF
  have hP : va_P D vwCl [(hm, .inr (7, [.ref p0, .ref c0, .ref n0, .ref b0, .ref e0, .ref f0, .ref l1, .ref l2, .ref l3, .ref l4, .ref l5, .int (u.2.1 11 2), .int (msk (u.2.2.2 1)), .long (u.1 9 0)]))] H := hP
  have hD : va_D A [(hm, .inr (7, [.ref p0, .ref c0, .ref n0, .ref b0, .ref e0, .ref f0, .ref l1, .ref l2, .ref l3, .ref l4, .ref l5, .int (u.2.1 11 2), .int (msk (u.2.2.2 1)), .long (u.1 9 0)]))] := hD
  refine lv_if_ne (tgt := 12) hx hb dX8_turnTruth_6 (by decide) (fun c_1 => ?_) (fun c_1 => ?_)
  · skip
    have c_1 := zb_n c_1
    rw [c_1] at hno; exact absurd hno (by decide)
  · skip
    have c_1 := zb_e c_1
    refine lv_bipush (v := (-2)) hx hb dX8_turnTruth_9 (by decide) ?_
    have hP9 := hP.sub (ws' := [(hm, .inr (7, [.ref p0, .ref c0, .ref n0, .ref b0, .ref e0, .ref f0, .ref l1, .ref l2, .ref l3, .ref l4, .ref l5, .int (u.2.1 11 2), .int (msk (u.2.2.2 1)), .long (u.1 9 0)]))]) [0] rfl
    have hD9 := hD.sub (ws' := [(hm, .inr (7, [.ref p0, .ref c0, .ref n0, .ref b0, .ref e0, .ref f0, .ref l1, .ref l2, .ref l3, .ref l4, .ref l5, .int (u.2.1 11 2), .int (msk (u.2.2.2 1)), .long (u.1 9 0)]))]) [0] (by decide) rfl
    exact W.iret (v := (-2)) hx hb hr (fun t9 ht9 hW9 => ⟨⟨(-2), [(hm, .inr (7, [.ref p0, .ref c0, .ref n0, .ref b0, .ref e0, .ref f0, .ref l1, .ref l2, .ref l3, .ref l4, .ref l5, .int (u.2.1 11 2), .int (msk (u.2.2.2 1)), .long (u.1 9 0)]))], rfl, ⟨rfl, rfl⟩, by rw [ht9]; exact hP9, hD9⟩, hS.F ht9⟩) hS.2.2 dX8_turnTruth_11
set_option maxHeartbeats 4000000 in
set_option maxRecDepth 100000 in
theorem c_X8_turnEstimate_ok (l : Launch) (D : va_G) (k : Nat → ClassId) (sz : Nat) (hm p0 c0 n0 b0 e0 e1 e2 e3 e4 e5 e6 e7 g0 g1 g2 g3 g4 g5 g6 g7 g8 q0 f0 l1 l2 l3 l4 l5 : Nat) (u : zS) (xS xI xR : Nat → Int64) (x y z : Int32) (h0 : ((zin x (-4000000) 4000000 && (zin y (-4000000) 4000000 && zin z (-4000000) 4000000))) = true) : Met l yX8_turnEstimate wsX8_turnEstimate ({ frames := 3, cells := 0, slots := 0, locals := 92 } : Room) (va_Pc [.ref hm, .int x, .int y, .int z] (zPre D k [(hm, .inr (7, [.ref p0, .ref c0, .ref n0, .ref b0, .ref e0, .ref f0, .ref l1, .ref l2, .ref l3, .ref l4, .ref l5, .int (u.2.1 11 2), .int (msk (u.2.2.2 1)), .long (u.1 9 0)])), (e0, .inr (4, [.ref g0, .ref q0, .ref e1, .ref e2, .ref e3, .ref e4, .ref e5, .ref e6, .ref e7, .int (u.2.1 11 3), .int (u.2.1 11 4), .int (u.2.1 11 5)])), (g0, .inr (0, [.ref g1, .ref g2, .ref g3, .ref g4, .ref g5])), (g1, zaJ k 4 (u.1 1)), (g2, zaJ k 4 xS), (g3, zaJ k 4 xI), (g4, zaJ k 4 xR), (g5, zaG k 3 (gr3 g6 g7 g8)), (g6, zaJ k 3 (mrow0 (u.1 1))), (g7, zaJ k 3 (mrow1 (u.1 1))), (g8, zaJ k 3 (mrow2 (u.1 1)))] sz zN)) (zQi D [(hm, .inr (7, [.ref p0, .ref c0, .ref n0, .ref b0, .ref e0, .ref f0, .ref l1, .ref l2, .ref l3, .ref l4, .ref l5, .int (u.2.1 11 2), .int (msk (u.2.2.2 1)), .long (u.1 9 0)])), (e0, .inr (4, [.ref g0, .ref q0, .ref e1, .ref e2, .ref e3, .ref e4, .ref e5, .ref e6, .ref e7, .int (u.2.1 11 3), .int (u.2.1 11 4), .int (u.2.1 11 5)])), (g0, .inr (0, [.ref g1, .ref g2, .ref g3, .ref g4, .ref g5])), (g1, zaJ k 4 (u.1 1)), (g2, zaJ k 4 xS), (g3, zaJ k 4 xI), (g4, zaJ k 4 xR), (g5, zaG k 3 (gr3 g6 g7 g8)), (g6, zaJ k 3 (mrow0 (u.1 1))), (g7, zaJ k 3 (mrow1 (u.1 1))), (g8, zaJ k 3 (mrow2 (u.1 1)))] sz 0 (fun w : va_W => ∃ (xS2 xR2 : Nat → Int64), w = [(hm, .inr (7, [.ref p0, .ref c0, .ref n0, .ref b0, .ref e0, .ref f0, .ref l1, .ref l2, .ref l3, .ref l4, .ref l5, .int (u.2.1 11 2), .int (msk (u.2.2.2 1)), .long (u.1 9 0)])), (e0, .inr (4, [.ref g0, .ref q0, .ref e1, .ref e2, .ref e3, .ref e4, .ref e5, .ref e6, .ref e7, .int (u.2.1 11 3), .int (u.2.1 11 4), .int (u.2.1 11 5)])), (g0, .inr (0, [.ref g1, .ref g2, .ref g3, .ref g4, .ref g5])), (g1, zaJ k 4 (qturn (u.1 1) x.toInt64 y.toInt64 z.toInt64)), (g2, zaJ k 4 xS2), (g3, zaJ k 4 xI), (g4, zaJ k 4 xR2), (g5, zaG k 3 (gr3 g6 g7 g8)), (g6, zaJ k 3 (mrow0 (qturn (u.1 1) x.toInt64 y.toInt64 z.toInt64))), (g7, zaJ k 3 (mrow1 (qturn (u.1 1) x.toInt64 y.toInt64 z.toInt64))), (g8, zaJ k 3 (mrow2 (qturn (u.1 1) x.toInt64 y.toInt64 z.toInt64)))])) 0 0 (va_A [(hm, .inr (7, [.ref p0, .ref c0, .ref n0, .ref b0, .ref e0, .ref f0, .ref l1, .ref l2, .ref l3, .ref l4, .ref l5, .int (u.2.1 11 2), .int (msk (u.2.2.2 1)), .long (u.1 9 0)])), (e0, .inr (4, [.ref g0, .ref q0, .ref e1, .ref e2, .ref e3, .ref e4, .ref e5, .ref e6, .ref e7, .int (u.2.1 11 3), .int (u.2.1 11 4), .int (u.2.1 11 5)])), (g0, .inr (0, [.ref g1, .ref g2, .ref g3, .ref g4, .ref g5])), (g1, zaJ k 4 (u.1 1)), (g2, zaJ k 4 xS), (g3, zaJ k 4 xI), (g4, zaJ k 4 xR), (g5, zaG k 3 (gr3 g6 g7 g8)), (g6, zaJ k 3 (mrow0 (u.1 1))), (g7, zaJ k 3 (mrow1 (u.1 1))), (g8, zaJ k 3 (mrow2 (u.1 1)))] sz) := by
  refine Met.ofW (cc := cX8_turnEstimate) (maxL := 4) (ret := (some .int)) (by decide) rfl ?_
  intro p e s m args below meth c s₁ B hml hv
  obtain ⟨rfl, hsz, hP, hK, hD0, hE⟩ := hv
  have hx := B.exec
  have hb := B.bytes
  have hr := B.returns
  have hts := atoms_spec (ws := wsX8_turnEstimate) B.pre
  have hown : s.vm.findClass RX8 = some m.cls := findClass_of_methodNamed B.named
  have hlocks := B.notSynchronized
  subst hsz
  have hD := hD0.self (sz := s.heap.size)
  delta zQi zB
  generalize hAe : va_A [(hm, .inr (7, [.ref p0, .ref c0, .ref n0, .ref b0, .ref e0, .ref f0, .ref l1, .ref l2, .ref l3, .ref l4, .ref l5, .int (u.2.1 11 2), .int (msk (u.2.2.2 1)), .long (u.1 9 0)])), (e0, .inr (4, [.ref g0, .ref q0, .ref e1, .ref e2, .ref e3, .ref e4, .ref e5, .ref e6, .ref e7, .int (u.2.1 11 3), .int (u.2.1 11 4), .int (u.2.1 11 5)])), (g0, .inr (0, [.ref g1, .ref g2, .ref g3, .ref g4, .ref g5])), (g1, zaJ k 4 (u.1 1)), (g2, zaJ k 4 xS), (g3, zaJ k 4 xI), (g4, zaJ k 4 xR), (g5, zaG k 3 (gr3 g6 g7 g8)), (g6, zaJ k 3 (mrow0 (u.1 1))), (g7, zaJ k 3 (mrow1 (u.1 1))), (g8, zaJ k 3 (mrow2 (u.1 1)))] s.heap.size = A at hD hE ⊢
  have hA : ∀ q : Nat, s.heap.size ≤ q → A q := fun q h => by rw [← hAe]; exact Or.inr h
  have hS : va_S A s.heap s.heap [] := va_S.rf
  have hl := lv_entry [.ref hm, .int x, .int y, .int z] (n := 4) (Nat.le_of_ble_eq_true rfl)
  rw [lg_entry_eq]
  generalize (lg_sl [.ref hm, .int x, .int y, .int z] ++ List.replicate (4 - (lg_sl [.ref hm, .int x, .int y, .int z]).length) Slot.unset).toArray = ls at hl ⊢
  have hl : lv_has ls 4 [(0, .ref hm), (1, .int x), (2, .int y), (3, .int z)] := hl
  have hl40 : (Cond.fieldLink RX8 40 "InertialReference" "estimator" "LInertialReference$Estimator;").before #[Value.ref hm, Value.int x, Value.int y, Value.int z] s = true := zw hts 1 rfl
  have hinX8 : ∀ w ∈ u_ws RX8 TX8 14, w ∈ wsX8_turnEstimate := fun w h => List.mem_cons_of_mem _ (List.mem_append_left _ (List.mem_append_left _ (List.mem_append_right _ h)))
  have hl196 : (Cond.fieldLinkNest RX8 196 "InertialReference$Estimator" "attitude" "LInertialReference$Attitude;" "InertialReference").before #[Value.ref hm, Value.int x, Value.int y, Value.int z] s = true := va_Nw.use rfl (zn_RX8_196 hE)
  have hinX4 : ∀ w ∈ u_ws RX4 TX4 12, w ∈ wsX8_turnEstimate := fun w h => List.mem_cons_of_mem _ (List.mem_append_left _ (List.mem_append_right _ h))
  refine lv_iload_n hx hb dX8_turnEstimate_0 rfl (lv_at hl 1 rfl) ?_
  refine lv_iload_n hx hb dX8_turnEstimate_1 rfl (lv_at hl 2 rfl) ?_
  refine lv_iload_n hx hb dX8_turnEstimate_2 rfl (lv_at hl 3 rfl) ?_
  refine z_calli0 (wc := []) (wr := [(hm, .inr (7, [.ref p0, .ref c0, .ref n0, .ref b0, .ref e0, .ref f0, .ref l1, .ref l2, .ref l3, .ref l4, .ref l5, .int (u.2.1 11 2), .int (msk (u.2.2.2 1)), .long (u.1 9 0)])), (e0, .inr (4, [.ref g0, .ref q0, .ref e1, .ref e2, .ref e3, .ref e4, .ref e5, .ref e6, .ref e7, .int (u.2.1 11 3), .int (u.2.1 11 4), .int (u.2.1 11 5)])), (g0, .inr (0, [.ref g1, .ref g2, .ref g3, .ref g4, .ref g5])), (g1, zaJ k 4 (u.1 1)), (g2, zaJ k 4 xS), (g3, zaJ k 4 xI), (g4, zaJ k 4 xR), (g5, zaG k 3 (gr3 g6 g7 g8)), (g6, zaJ k 3 (mrow0 (u.1 1))), (g7, zaJ k 3 (mrow1 (u.1 1))), (g8, zaJ k 3 (mrow2 (u.1 1)))]) (va_runS (As := [.int x, .int y, .int z]) (rest := []) ⟨hx, hb, hml, hown, hts⟩ (c_X8_isTurn l D k s.heap.size x y z) (va_cwS 3 hts gX8_turnEstimate_X8_isTurn rfl rfl rfl (by decide +kernel) ⟨Nat.le_of_ble_eq_true rfl, Nat.le_of_ble_eq_true rfl⟩) (z_preS (wc := []) hP hD hK [] rfl rfl zb0 zp0) rfl rfl hl.1 rfl (lv_room (Nat.le_of_ble_eq_true rfl)) dX8_turnEstimate_3 ⟨Nat.zero_le _, Nat.zero_le _⟩) hP hD hS hA [] [0, 1, 2, 3, 4, 5, 6, 7, 8, 9, 10] rfl rfl rfl (by decide) (fun w H locs hF hP hD hS => ?_)
  subst hF
  have hP : va_P D vwCl [(hm, .inr (7, [.ref p0, .ref c0, .ref n0, .ref b0, .ref e0, .ref f0, .ref l1, .ref l2, .ref l3, .ref l4, .ref l5, .int (u.2.1 11 2), .int (msk (u.2.2.2 1)), .long (u.1 9 0)])), (e0, .inr (4, [.ref g0, .ref q0, .ref e1, .ref e2, .ref e3, .ref e4, .ref e5, .ref e6, .ref e7, .int (u.2.1 11 3), .int (u.2.1 11 4), .int (u.2.1 11 5)])), (g0, .inr (0, [.ref g1, .ref g2, .ref g3, .ref g4, .ref g5])), (g1, zaJ k 4 (u.1 1)), (g2, zaJ k 4 xS), (g3, zaJ k 4 xI), (g4, zaJ k 4 xR), (g5, zaG k 3 (gr3 g6 g7 g8)), (g6, zaJ k 3 (mrow0 (u.1 1))), (g7, zaJ k 3 (mrow1 (u.1 1))), (g8, zaJ k 3 (mrow2 (u.1 1)))] H := hP
  have hD : va_D A [(hm, .inr (7, [.ref p0, .ref c0, .ref n0, .ref b0, .ref e0, .ref f0, .ref l1, .ref l2, .ref l3, .ref l4, .ref l5, .int (u.2.1 11 2), .int (msk (u.2.2.2 1)), .long (u.1 9 0)])), (e0, .inr (4, [.ref g0, .ref q0, .ref e1, .ref e2, .ref e3, .ref e4, .ref e5, .ref e6, .ref e7, .int (u.2.1 11 3), .int (u.2.1 11 4), .int (u.2.1 11 5)])), (g0, .inr (0, [.ref g1, .ref g2, .ref g3, .ref g4, .ref g5])), (g1, zaJ k 4 (u.1 1)), (g2, zaJ k 4 xS), (g3, zaJ k 4 xI), (g4, zaJ k 4 xR), (g5, zaG k 3 (gr3 g6 g7 g8)), (g6, zaJ k 3 (mrow0 (u.1 1))), (g7, zaJ k 3 (mrow1 (u.1 1))), (g8, zaJ k 3 (mrow2 (u.1 1)))] := hD
  refine lv_if_ne (tgt := 12) hx hb dX8_turnEstimate_6 (by decide) (fun c_1 => ?_) (fun c_1 => ?_)
  · skip
    have c_1 := zb_n c_1
    refine lv_aload_n hx hb dX8_turnEstimate_12 rfl (lv_at hl 0 rfl) ?_
    refine va_get (D := D) (ci := 7) (v := .ref e0) (C := RX8) (T := TX8) (N := 14) hx hb hts hinX8 hown hK hP 0 rfl rfl 4 (Nat.le_of_ble_eq_true rfl) hl40 (fun _ h9 => h9) rfl dX8_turnEstimate_13 ?_
    refine va_getN (D := D) (ci := 4) (v := .ref g0) (C := RX4) (T := TX4) (N := 12) hx hb hts hinX4 hown hK hP 1 rfl rfl 0 (Nat.le_of_ble_eq_true rfl) hl196 (fun _ h9 => h9) rfl dX8_turnEstimate_16 ?_
    refine lv_iload_n hx hb dX8_turnEstimate_19 rfl (lv_at hl 1 rfl) ?_
    refine lv_i2l (v := x.toInt64) hx hb dX8_turnEstimate_20 rfl ?_
    refine lv_iload_n hx hb dX8_turnEstimate_21 rfl (lv_at hl 2 rfl) ?_
    refine lv_i2l (v := y.toInt64) hx hb dX8_turnEstimate_22 rfl ?_
    refine lv_iload_n hx hb dX8_turnEstimate_23 rfl (lv_at hl 3 rfl) ?_
    refine lv_i2l (v := z.toInt64) hx hb dX8_turnEstimate_24 rfl ?_
    refine z_callv0 (wc := [(g0, .inr (0, [.ref g1, .ref g2, .ref g3, .ref g4, .ref g5])), (g1, zaJ k 4 (u.1 1)), (g2, zaJ k 4 xS), (g3, zaJ k 4 xI), (g4, zaJ k 4 xR), (g5, zaG k 3 (gr3 g6 g7 g8)), (g6, zaJ k 3 (mrow0 (u.1 1))), (g7, zaJ k 3 (mrow1 (u.1 1))), (g8, zaJ k 3 (mrow2 (u.1 1)))]) (wr := [(hm, .inr (7, [.ref p0, .ref c0, .ref n0, .ref b0, .ref e0, .ref f0, .ref l1, .ref l2, .ref l3, .ref l4, .ref l5, .int (u.2.1 11 2), .int (msk (u.2.2.2 1)), .long (u.1 9 0)])), (e0, .inr (4, [.ref g0, .ref q0, .ref e1, .ref e2, .ref e3, .ref e4, .ref e5, .ref e6, .ref e7, .int (u.2.1 11 3), .int (u.2.1 11 4), .int (u.2.1 11 5)]))]) (va_runV (As := [.long x.toInt64, .long y.toInt64, .long z.toInt64]) (rest := []) ⟨hx, hb, hml, hown, hts⟩ (c_X0_turn l D k H.size g0 g1 g2 g3 g4 g5 g6 g7 g8 (u.1 1) xS xI xR (mrow0 (u.1 1)) (mrow1 (u.1 1)) (mrow2 (u.1 1)) x.toInt64 y.toInt64 z.toInt64) (cwV 3 hts gX8_turnEstimate_X0_turn rfl rfl rfl (by decide +kernel) ⟨Nat.le_of_ble_eq_true rfl, Nat.le_of_ble_eq_true rfl⟩) (z_preV (wc := [(g0, .inr (0, [.ref g1, .ref g2, .ref g3, .ref g4, .ref g5])), (g1, zaJ k 4 (u.1 1)), (g2, zaJ k 4 xS), (g3, zaJ k 4 xI), (g4, zaJ k 4 xR), (g5, zaG k 3 (gr3 g6 g7 g8)), (g6, zaJ k 3 (mrow0 (u.1 1))), (g7, zaJ k 3 (mrow1 (u.1 1))), (g8, zaJ k 3 (mrow2 (u.1 1)))]) 2 0 hP hD hK [2, 3, 4, 5, 6, 7, 8, 9, 10] rfl rfl rfl rfl zb0 zp0) rfl rfl hl.1 rfl (lv_room (Nat.le_of_ble_eq_true rfl)) dX8_turnEstimate_25 ⟨Nat.zero_le _, Nat.zero_le _⟩) hP hD hS hA [2, 3, 4, 5, 6, 7, 8, 9, 10] [0, 1] rfl rfl rfl (by decide) (fun w H locs hF hP hD hS => ?_)
    obtain ⟨fS2_2, fR2_3, rfl⟩ := hF
    have hP : va_P D vwCl [(hm, .inr (7, [.ref p0, .ref c0, .ref n0, .ref b0, .ref e0, .ref f0, .ref l1, .ref l2, .ref l3, .ref l4, .ref l5, .int (u.2.1 11 2), .int (msk (u.2.2.2 1)), .long (u.1 9 0)])), (e0, .inr (4, [.ref g0, .ref q0, .ref e1, .ref e2, .ref e3, .ref e4, .ref e5, .ref e6, .ref e7, .int (u.2.1 11 3), .int (u.2.1 11 4), .int (u.2.1 11 5)])), (g0, .inr (0, [.ref g1, .ref g2, .ref g3, .ref g4, .ref g5])), (g1, zaJ k 4 (qturn (u.1 1) x.toInt64 y.toInt64 z.toInt64)), (g2, zaJ k 4 fS2_2), (g3, zaJ k 4 xI), (g4, zaJ k 4 fR2_3), (g5, zaG k 3 (gr3 g6 g7 g8)), (g6, zaJ k 3 (mrow0 (qturn (u.1 1) x.toInt64 y.toInt64 z.toInt64))), (g7, zaJ k 3 (mrow1 (qturn (u.1 1) x.toInt64 y.toInt64 z.toInt64))), (g8, zaJ k 3 (mrow2 (qturn (u.1 1) x.toInt64 y.toInt64 z.toInt64)))] H := hP
    have hD : va_D A [(hm, .inr (7, [.ref p0, .ref c0, .ref n0, .ref b0, .ref e0, .ref f0, .ref l1, .ref l2, .ref l3, .ref l4, .ref l5, .int (u.2.1 11 2), .int (msk (u.2.2.2 1)), .long (u.1 9 0)])), (e0, .inr (4, [.ref g0, .ref q0, .ref e1, .ref e2, .ref e3, .ref e4, .ref e5, .ref e6, .ref e7, .int (u.2.1 11 3), .int (u.2.1 11 4), .int (u.2.1 11 5)])), (g0, .inr (0, [.ref g1, .ref g2, .ref g3, .ref g4, .ref g5])), (g1, zaJ k 4 (qturn (u.1 1) x.toInt64 y.toInt64 z.toInt64)), (g2, zaJ k 4 fS2_2), (g3, zaJ k 4 xI), (g4, zaJ k 4 fR2_3), (g5, zaG k 3 (gr3 g6 g7 g8)), (g6, zaJ k 3 (mrow0 (qturn (u.1 1) x.toInt64 y.toInt64 z.toInt64))), (g7, zaJ k 3 (mrow1 (qturn (u.1 1) x.toInt64 y.toInt64 z.toInt64))), (g8, zaJ k 3 (mrow2 (qturn (u.1 1) x.toInt64 y.toInt64 z.toInt64)))] := hD
    refine lv_iconst (v := 0) hx hb dX8_turnEstimate_28 (by decide) ?_
    have hP9 := hP.sub (ws' := [(hm, .inr (7, [.ref p0, .ref c0, .ref n0, .ref b0, .ref e0, .ref f0, .ref l1, .ref l2, .ref l3, .ref l4, .ref l5, .int (u.2.1 11 2), .int (msk (u.2.2.2 1)), .long (u.1 9 0)])), (e0, .inr (4, [.ref g0, .ref q0, .ref e1, .ref e2, .ref e3, .ref e4, .ref e5, .ref e6, .ref e7, .int (u.2.1 11 3), .int (u.2.1 11 4), .int (u.2.1 11 5)])), (g0, .inr (0, [.ref g1, .ref g2, .ref g3, .ref g4, .ref g5])), (g1, zaJ k 4 (qturn (u.1 1) x.toInt64 y.toInt64 z.toInt64)), (g2, zaJ k 4 fS2_2), (g3, zaJ k 4 xI), (g4, zaJ k 4 fR2_3), (g5, zaG k 3 (gr3 g6 g7 g8)), (g6, zaJ k 3 (mrow0 (qturn (u.1 1) x.toInt64 y.toInt64 z.toInt64))), (g7, zaJ k 3 (mrow1 (qturn (u.1 1) x.toInt64 y.toInt64 z.toInt64))), (g8, zaJ k 3 (mrow2 (qturn (u.1 1) x.toInt64 y.toInt64 z.toInt64)))]) [0, 1, 2, 3, 4, 5, 6, 7, 8, 9, 10] rfl
    have hD9 := hD.sub (ws' := [(hm, .inr (7, [.ref p0, .ref c0, .ref n0, .ref b0, .ref e0, .ref f0, .ref l1, .ref l2, .ref l3, .ref l4, .ref l5, .int (u.2.1 11 2), .int (msk (u.2.2.2 1)), .long (u.1 9 0)])), (e0, .inr (4, [.ref g0, .ref q0, .ref e1, .ref e2, .ref e3, .ref e4, .ref e5, .ref e6, .ref e7, .int (u.2.1 11 3), .int (u.2.1 11 4), .int (u.2.1 11 5)])), (g0, .inr (0, [.ref g1, .ref g2, .ref g3, .ref g4, .ref g5])), (g1, zaJ k 4 (qturn (u.1 1) x.toInt64 y.toInt64 z.toInt64)), (g2, zaJ k 4 fS2_2), (g3, zaJ k 4 xI), (g4, zaJ k 4 fR2_3), (g5, zaG k 3 (gr3 g6 g7 g8)), (g6, zaJ k 3 (mrow0 (qturn (u.1 1) x.toInt64 y.toInt64 z.toInt64))), (g7, zaJ k 3 (mrow1 (qturn (u.1 1) x.toInt64 y.toInt64 z.toInt64))), (g8, zaJ k 3 (mrow2 (qturn (u.1 1) x.toInt64 y.toInt64 z.toInt64)))]) [0, 1, 2, 3, 4, 5, 6, 7, 8, 9, 10] (by decide) rfl
    exact W.iret (v := 0) hx hb hr (fun t9 ht9 hW9 => ⟨⟨0, [(hm, .inr (7, [.ref p0, .ref c0, .ref n0, .ref b0, .ref e0, .ref f0, .ref l1, .ref l2, .ref l3, .ref l4, .ref l5, .int (u.2.1 11 2), .int (msk (u.2.2.2 1)), .long (u.1 9 0)])), (e0, .inr (4, [.ref g0, .ref q0, .ref e1, .ref e2, .ref e3, .ref e4, .ref e5, .ref e6, .ref e7, .int (u.2.1 11 3), .int (u.2.1 11 4), .int (u.2.1 11 5)])), (g0, .inr (0, [.ref g1, .ref g2, .ref g3, .ref g4, .ref g5])), (g1, zaJ k 4 (qturn (u.1 1) x.toInt64 y.toInt64 z.toInt64)), (g2, zaJ k 4 fS2_2), (g3, zaJ k 4 xI), (g4, zaJ k 4 fR2_3), (g5, zaG k 3 (gr3 g6 g7 g8)), (g6, zaJ k 3 (mrow0 (qturn (u.1 1) x.toInt64 y.toInt64 z.toInt64))), (g7, zaJ k 3 (mrow1 (qturn (u.1 1) x.toInt64 y.toInt64 z.toInt64))), (g8, zaJ k 3 (mrow2 (qturn (u.1 1) x.toInt64 y.toInt64 z.toInt64)))], rfl, ⟨rfl, ⟨fS2_2, fR2_3, rfl⟩⟩, by rw [ht9]; exact hP9, hD9⟩, hS.F ht9⟩) hS.2.2 dX8_turnEstimate_29
  · skip
    have c_1 := zb_e c_1
    first | exact absurd (c_1.symm.trans h0) (by decide)
set_option maxHeartbeats 4000000 in
set_option maxRecDepth 100000 in
theorem c_X8_turnEstimate_no (l : Launch) (D : va_G) (k : Nat → ClassId) (sz : Nat) (hm p0 c0 n0 b0 e0 f0 l1 l2 l3 l4 l5 : Nat) (u : zS) (x y z : Int32) (hno : ((zin x (-4000000) 4000000 && (zin y (-4000000) 4000000 && zin z (-4000000) 4000000))) = false) : Met l yX8_turnEstimate wsX8_turnEstimate ({ frames := 2, cells := 0, slots := 0, locals := 45 } : Room) (va_Pc [.ref hm, .int x, .int y, .int z] (zPre D k [(hm, .inr (7, [.ref p0, .ref c0, .ref n0, .ref b0, .ref e0, .ref f0, .ref l1, .ref l2, .ref l3, .ref l4, .ref l5, .int (u.2.1 11 2), .int (msk (u.2.2.2 1)), .long (u.1 9 0)]))] sz zX0)) (zQi D [(hm, .inr (7, [.ref p0, .ref c0, .ref n0, .ref b0, .ref e0, .ref f0, .ref l1, .ref l2, .ref l3, .ref l4, .ref l5, .int (u.2.1 11 2), .int (msk (u.2.2.2 1)), .long (u.1 9 0)]))] sz (-2) (fun w : va_W => w = [(hm, .inr (7, [.ref p0, .ref c0, .ref n0, .ref b0, .ref e0, .ref f0, .ref l1, .ref l2, .ref l3, .ref l4, .ref l5, .int (u.2.1 11 2), .int (msk (u.2.2.2 1)), .long (u.1 9 0)]))])) 0 0 (va_A [(hm, .inr (7, [.ref p0, .ref c0, .ref n0, .ref b0, .ref e0, .ref f0, .ref l1, .ref l2, .ref l3, .ref l4, .ref l5, .int (u.2.1 11 2), .int (msk (u.2.2.2 1)), .long (u.1 9 0)]))] sz) := by
  refine Met.ofW (cc := cX8_turnEstimate) (maxL := 4) (ret := (some .int)) (by decide) rfl ?_
  intro p e s m args below meth c s₁ B hml hv
  obtain ⟨rfl, hsz, hP, hK, hD0, hE⟩ := hv
  have hx := B.exec
  have hb := B.bytes
  have hr := B.returns
  have hts := atoms_spec (ws := wsX8_turnEstimate) B.pre
  have hown : s.vm.findClass RX8 = some m.cls := findClass_of_methodNamed B.named
  have hlocks := B.notSynchronized
  subst hsz
  have hD := hD0.self (sz := s.heap.size)
  delta zQi zB
  generalize hAe : va_A [(hm, .inr (7, [.ref p0, .ref c0, .ref n0, .ref b0, .ref e0, .ref f0, .ref l1, .ref l2, .ref l3, .ref l4, .ref l5, .int (u.2.1 11 2), .int (msk (u.2.2.2 1)), .long (u.1 9 0)]))] s.heap.size = A at hD hE ⊢
  have hA : ∀ q : Nat, s.heap.size ≤ q → A q := fun q h => by rw [← hAe]; exact Or.inr h
  have hS : va_S A s.heap s.heap [] := va_S.rf
  have hl := lv_entry [.ref hm, .int x, .int y, .int z] (n := 4) (Nat.le_of_ble_eq_true rfl)
  rw [lg_entry_eq]
  generalize (lg_sl [.ref hm, .int x, .int y, .int z] ++ List.replicate (4 - (lg_sl [.ref hm, .int x, .int y, .int z]).length) Slot.unset).toArray = ls at hl ⊢
  have hl : lv_has ls 4 [(0, .ref hm), (1, .int x), (2, .int y), (3, .int z)] := hl
  refine lv_iload_n hx hb dX8_turnEstimate_0 rfl (lv_at hl 1 rfl) ?_
  refine lv_iload_n hx hb dX8_turnEstimate_1 rfl (lv_at hl 2 rfl) ?_
  refine lv_iload_n hx hb dX8_turnEstimate_2 rfl (lv_at hl 3 rfl) ?_
  refine z_calli0 (wc := []) (wr := [(hm, .inr (7, [.ref p0, .ref c0, .ref n0, .ref b0, .ref e0, .ref f0, .ref l1, .ref l2, .ref l3, .ref l4, .ref l5, .int (u.2.1 11 2), .int (msk (u.2.2.2 1)), .long (u.1 9 0)]))]) (va_runS (As := [.int x, .int y, .int z]) (rest := []) ⟨hx, hb, hml, hown, hts⟩ (c_X8_isTurn l D k s.heap.size x y z) (va_cwS 3 hts gX8_turnEstimate_X8_isTurn rfl rfl rfl (by decide +kernel) ⟨Nat.le_of_ble_eq_true rfl, Nat.le_of_ble_eq_true rfl⟩) (z_preS (wc := []) hP hD hK [] rfl rfl zb0 zp0) rfl rfl hl.1 rfl (lv_room (Nat.le_of_ble_eq_true rfl)) dX8_turnEstimate_3 ⟨Nat.zero_le _, Nat.zero_le _⟩) hP hD hS hA [] [0] rfl rfl rfl (by decide) (fun w H locs hF hP hD hS => ?_)
  subst hF
  have hP : va_P D vwCl [(hm, .inr (7, [.ref p0, .ref c0, .ref n0, .ref b0, .ref e0, .ref f0, .ref l1, .ref l2, .ref l3, .ref l4, .ref l5, .int (u.2.1 11 2), .int (msk (u.2.2.2 1)), .long (u.1 9 0)]))] H := hP
  have hD : va_D A [(hm, .inr (7, [.ref p0, .ref c0, .ref n0, .ref b0, .ref e0, .ref f0, .ref l1, .ref l2, .ref l3, .ref l4, .ref l5, .int (u.2.1 11 2), .int (msk (u.2.2.2 1)), .long (u.1 9 0)]))] := hD
  refine lv_if_ne (tgt := 12) hx hb dX8_turnEstimate_6 (by decide) (fun c_1 => ?_) (fun c_1 => ?_)
  · skip
    have c_1 := zb_n c_1
    rw [c_1] at hno; exact absurd hno (by decide)
  · skip
    have c_1 := zb_e c_1
    refine lv_bipush (v := (-2)) hx hb dX8_turnEstimate_9 (by decide) ?_
    have hP9 := hP.sub (ws' := [(hm, .inr (7, [.ref p0, .ref c0, .ref n0, .ref b0, .ref e0, .ref f0, .ref l1, .ref l2, .ref l3, .ref l4, .ref l5, .int (u.2.1 11 2), .int (msk (u.2.2.2 1)), .long (u.1 9 0)]))]) [0] rfl
    have hD9 := hD.sub (ws' := [(hm, .inr (7, [.ref p0, .ref c0, .ref n0, .ref b0, .ref e0, .ref f0, .ref l1, .ref l2, .ref l3, .ref l4, .ref l5, .int (u.2.1 11 2), .int (msk (u.2.2.2 1)), .long (u.1 9 0)]))]) [0] (by decide) rfl
    exact W.iret (v := (-2)) hx hb hr (fun t9 ht9 hW9 => ⟨⟨(-2), [(hm, .inr (7, [.ref p0, .ref c0, .ref n0, .ref b0, .ref e0, .ref f0, .ref l1, .ref l2, .ref l3, .ref l4, .ref l5, .int (u.2.1 11 2), .int (msk (u.2.2.2 1)), .long (u.1 9 0)]))], rfl, ⟨rfl, rfl⟩, by rw [ht9]; exact hP9, hD9⟩, hS.F ht9⟩) hS.2.2 dX8_turnEstimate_11
set_option maxHeartbeats 4000000 in
set_option maxRecDepth 100000 in
theorem c_X8_time (l : Launch) (D : va_G) (k : Nat → ClassId) (sz : Nat) (hm p0 c0 n0 b0 e0 f0 l1 l2 l3 l4 l5 : Nat) (u : zS)  : Met l yX8_time wsX8_time ({ frames := 0, cells := 0, slots := 0, locals := 0 } : Room) (va_Pc [.ref hm] (zPre D k [(hm, .inr (7, [.ref p0, .ref c0, .ref n0, .ref b0, .ref e0, .ref f0, .ref l1, .ref l2, .ref l3, .ref l4, .ref l5, .int (u.2.1 11 2), .int (msk (u.2.2.2 1)), .long (u.1 9 0)]))] sz zX0)) (zQi D [(hm, .inr (7, [.ref p0, .ref c0, .ref n0, .ref b0, .ref e0, .ref f0, .ref l1, .ref l2, .ref l3, .ref l4, .ref l5, .int (u.2.1 11 2), .int (msk (u.2.2.2 1)), .long (u.1 9 0)]))] sz (u.2.1 11 2) (fun w : va_W => w = [(hm, .inr (7, [.ref p0, .ref c0, .ref n0, .ref b0, .ref e0, .ref f0, .ref l1, .ref l2, .ref l3, .ref l4, .ref l5, .int (u.2.1 11 2), .int (msk (u.2.2.2 1)), .long (u.1 9 0)]))])) 0 0 (va_A [(hm, .inr (7, [.ref p0, .ref c0, .ref n0, .ref b0, .ref e0, .ref f0, .ref l1, .ref l2, .ref l3, .ref l4, .ref l5, .int (u.2.1 11 2), .int (msk (u.2.2.2 1)), .long (u.1 9 0)]))] sz) := by
  refine Met.ofW (cc := cX8_time) (maxL := 1) (ret := (some .int)) (by decide) rfl ?_
  intro p e s m args below meth c s₁ B hml hv
  obtain ⟨rfl, hsz, hP, hK, hD0, hE⟩ := hv
  have hx := B.exec
  have hb := B.bytes
  have hr := B.returns
  have hts := atoms_spec (ws := wsX8_time) B.pre
  have hown : s.vm.findClass RX8 = some m.cls := findClass_of_methodNamed B.named
  have hlocks := B.notSynchronized
  subst hsz
  have hD := hD0.self (sz := s.heap.size)
  delta zQi zB
  generalize hAe : va_A [(hm, .inr (7, [.ref p0, .ref c0, .ref n0, .ref b0, .ref e0, .ref f0, .ref l1, .ref l2, .ref l3, .ref l4, .ref l5, .int (u.2.1 11 2), .int (msk (u.2.2.2 1)), .long (u.1 9 0)]))] s.heap.size = A at hD hE ⊢
  have hA : ∀ q : Nat, s.heap.size ≤ q → A q := fun q h => by rw [← hAe]; exact Or.inr h
  have hS : va_S A s.heap s.heap [] := va_S.rf
  have hl := lv_entry [.ref hm] (n := 1) (Nat.le_of_ble_eq_true rfl)
  rw [lg_entry_eq]
  generalize (lg_sl [.ref hm] ++ List.replicate (1 - (lg_sl [.ref hm]).length) Slot.unset).toArray = ls at hl ⊢
  have hl : lv_has ls 1 [(0, .ref hm)] := hl
  have hl124 : (Cond.fieldLink RX8 124 "InertialReference" "now" "I").before #[Value.ref hm] s = true := zw hts 1 rfl
  have hinX8 : ∀ w ∈ u_ws RX8 TX8 14, w ∈ wsX8_time := fun w h => List.mem_cons_of_mem _ (List.mem_append_right _ h)
  refine lv_aload_n hx hb dX8_time_0 rfl (lv_at hl 0 rfl) ?_
  refine va_get (D := D) (ci := 7) (v := .int (u.2.1 11 2)) (C := RX8) (T := TX8) (N := 14) hx hb hts hinX8 hown hK hP 0 rfl rfl 11 (Nat.le_of_ble_eq_true rfl) hl124 (fun _ h9 => h9) rfl dX8_time_1 ?_
  have hP9 := hP.sub (ws' := [(hm, .inr (7, [.ref p0, .ref c0, .ref n0, .ref b0, .ref e0, .ref f0, .ref l1, .ref l2, .ref l3, .ref l4, .ref l5, .int (u.2.1 11 2), .int (msk (u.2.2.2 1)), .long (u.1 9 0)]))]) [0] rfl
  have hD9 := hD.sub (ws' := [(hm, .inr (7, [.ref p0, .ref c0, .ref n0, .ref b0, .ref e0, .ref f0, .ref l1, .ref l2, .ref l3, .ref l4, .ref l5, .int (u.2.1 11 2), .int (msk (u.2.2.2 1)), .long (u.1 9 0)]))]) [0] (by decide) rfl
  exact W.iret (v := u.2.1 11 2) hx hb hr (fun t9 ht9 hW9 => ⟨⟨(u.2.1 11 2), [(hm, .inr (7, [.ref p0, .ref c0, .ref n0, .ref b0, .ref e0, .ref f0, .ref l1, .ref l2, .ref l3, .ref l4, .ref l5, .int (u.2.1 11 2), .int (msk (u.2.2.2 1)), .long (u.1 9 0)]))], rfl, ⟨rfl, rfl⟩, by rw [ht9]; exact hP9, hD9⟩, hS.F ht9⟩) hS.2.2 dX8_time_4
set_option maxHeartbeats 4000000 in
set_option maxRecDepth 100000 in
theorem c_X8_gyro (l : Launch) (D : va_G) (k : Nat → ClassId) (sz : Nat) (hm p0 c0 n0 n1 n2 n3 n4 n5 n6 n7 n8 b0 e0 f0 l1 l2 l3 l4 l5 : Nat) (u : zS) (a : Int32) : Met l yX8_gyro wsX8_gyro ({ frames := 1, cells := 0, slots := 0, locals := 21 } : Room) (va_Pc [.ref hm, .int a] (zPre D k [(hm, .inr (7, [.ref p0, .ref c0, .ref n0, .ref b0, .ref e0, .ref f0, .ref l1, .ref l2, .ref l3, .ref l4, .ref l5, .int (u.2.1 11 2), .int (msk (u.2.2.2 1)), .long (u.1 9 0)])), (n0, .inr (6, [.ref n1, .ref n2, .ref n3, .ref n4, .ref n5, .ref n6, .ref n7, .ref n8, .int (u.2.1 11 0), .int (u.2.1 11 1)])), (n6, zaJ k 3 (u.1 2))] sz zN)) (zQl D [(hm, .inr (7, [.ref p0, .ref c0, .ref n0, .ref b0, .ref e0, .ref f0, .ref l1, .ref l2, .ref l3, .ref l4, .ref l5, .int (u.2.1 11 2), .int (msk (u.2.2.2 1)), .long (u.1 9 0)])), (n0, .inr (6, [.ref n1, .ref n2, .ref n3, .ref n4, .ref n5, .ref n6, .ref n7, .ref n8, .int (u.2.1 11 0), .int (u.2.1 11 1)])), (n6, zaJ k 3 (u.1 2))] sz (if zin a 0 ((3 : Nat) - 1 : Int) then (u.1 2) a.toNatClampNeg else 0) (fun w : va_W => w = [(hm, .inr (7, [.ref p0, .ref c0, .ref n0, .ref b0, .ref e0, .ref f0, .ref l1, .ref l2, .ref l3, .ref l4, .ref l5, .int (u.2.1 11 2), .int (msk (u.2.2.2 1)), .long (u.1 9 0)])), (n0, .inr (6, [.ref n1, .ref n2, .ref n3, .ref n4, .ref n5, .ref n6, .ref n7, .ref n8, .int (u.2.1 11 0), .int (u.2.1 11 1)])), (n6, zaJ k 3 (u.1 2))])) 0 0 (va_A [(hm, .inr (7, [.ref p0, .ref c0, .ref n0, .ref b0, .ref e0, .ref f0, .ref l1, .ref l2, .ref l3, .ref l4, .ref l5, .int (u.2.1 11 2), .int (msk (u.2.2.2 1)), .long (u.1 9 0)])), (n0, .inr (6, [.ref n1, .ref n2, .ref n3, .ref n4, .ref n5, .ref n6, .ref n7, .ref n8, .int (u.2.1 11 0), .int (u.2.1 11 1)])), (n6, zaJ k 3 (u.1 2))] sz) := by
  refine Met.ofW (cc := cX8_gyro) (maxL := 2) (ret := (some .long)) (by decide) rfl ?_
  intro p e s m args below meth c s₁ B hml hv
  obtain ⟨rfl, hsz, hP, hK, hD0, hE⟩ := hv
  have hx := B.exec
  have hb := B.bytes
  have hr := B.returns
  have hts := atoms_spec (ws := wsX8_gyro) B.pre
  have hown : s.vm.findClass RX8 = some m.cls := findClass_of_methodNamed B.named
  have hlocks := B.notSynchronized
  subst hsz
  have hD := hD0.self (sz := s.heap.size)
  delta zQl zB
  generalize hAe : va_A [(hm, .inr (7, [.ref p0, .ref c0, .ref n0, .ref b0, .ref e0, .ref f0, .ref l1, .ref l2, .ref l3, .ref l4, .ref l5, .int (u.2.1 11 2), .int (msk (u.2.2.2 1)), .long (u.1 9 0)])), (n0, .inr (6, [.ref n1, .ref n2, .ref n3, .ref n4, .ref n5, .ref n6, .ref n7, .ref n8, .int (u.2.1 11 0), .int (u.2.1 11 1)])), (n6, zaJ k 3 (u.1 2))] s.heap.size = A at hD hE ⊢
  have hA : ∀ q : Nat, s.heap.size ≤ q → A q := fun q h => by rw [← hAe]; exact Or.inr h
  have hS : va_S A s.heap s.heap [] := va_S.rf
  have hl := lv_entry [.ref hm, .int a] (n := 2) (Nat.le_of_ble_eq_true rfl)
  rw [lg_entry_eq]
  generalize (lg_sl [.ref hm, .int a] ++ List.replicate (2 - (lg_sl [.ref hm, .int a]).length) Slot.unset).toArray = ls at hl ⊢
  have hl : lv_has ls 2 [(0, .ref hm), (1, .int a)] := hl
  have hl26 : (Cond.fieldLink RX8 26 "InertialReference" "sensors" "LInertialReference$Sensors;").before #[Value.ref hm, Value.int a] s = true := zw hts 1 rfl
  have hinX8 : ∀ w ∈ u_ws RX8 TX8 14, w ∈ wsX8_gyro := fun w h => List.mem_cons_of_mem _ (List.mem_append_left _ (List.mem_append_right _ h))
  have hl132 : (Cond.fieldLinkNest RX8 132 "InertialReference$Sensors" "gyroReadings" "[J" "InertialReference").before #[Value.ref hm, Value.int a] s = true := va_Nw.use rfl (zn_RX8_132 hE)
  have hinX7 : ∀ w ∈ u_ws RX7 TX7 10, w ∈ wsX8_gyro := fun w h => List.mem_cons_of_mem _ (List.mem_append_right _ h)
  refine lv_aload_n hx hb dX8_gyro_0 rfl (lv_at hl 0 rfl) ?_
  refine va_get (D := D) (ci := 7) (v := .ref n0) (C := RX8) (T := TX8) (N := 14) hx hb hts hinX8 hown hK hP 0 rfl rfl 2 (Nat.le_of_ble_eq_true rfl) hl26 (fun _ h9 => h9) rfl dX8_gyro_1 ?_
  refine va_getN (D := D) (ci := 6) (v := .ref n6) (C := RX7) (T := TX7) (N := 10) hx hb hts hinX7 hown hK hP 1 rfl rfl 5 (Nat.le_of_ble_eq_true rfl) hl132 (fun _ h9 => h9) rfl dX8_gyro_4 ?_
  refine lv_iload_n hx hb dX8_gyro_7 rfl (lv_at hl 1 rfl) ?_
  refine z_calll0 (wc := [(n6, zaJ k 3 (u.1 2))]) (wr := [(hm, .inr (7, [.ref p0, .ref c0, .ref n0, .ref b0, .ref e0, .ref f0, .ref l1, .ref l2, .ref l3, .ref l4, .ref l5, .int (u.2.1 11 2), .int (msk (u.2.2.2 1)), .long (u.1 9 0)])), (n0, .inr (6, [.ref n1, .ref n2, .ref n3, .ref n4, .ref n5, .ref n6, .ref n7, .ref n8, .int (u.2.1 11 0), .int (u.2.1 11 1)]))]) (va_runS (As := [.ref n6, .int a]) (rest := []) ⟨hx, hb, hml, hown, hts⟩ (c_X5_at l D k s.heap.size n6 3 (u.1 2) a (by decide)) (va_cwS 2 hts gX8_gyro_X5_at rfl rfl rfl (by decide +kernel) ⟨Nat.le_of_ble_eq_true rfl, Nat.le_of_ble_eq_true rfl⟩) (z_preS (wc := [(n6, zaJ k 3 (u.1 2))]) hP hD hK [2] rfl rfl zb0 zp0) rfl rfl hl.1 rfl (lv_room (Nat.le_of_ble_eq_true rfl)) dX8_gyro_8 ⟨Nat.zero_le _, Nat.zero_le _⟩) hP hD hS hA [2] [0, 1] rfl rfl rfl (by decide) (fun w H locs hF hP hD hS => ?_)
  subst hF
  have hP : va_P D vwCl [(hm, .inr (7, [.ref p0, .ref c0, .ref n0, .ref b0, .ref e0, .ref f0, .ref l1, .ref l2, .ref l3, .ref l4, .ref l5, .int (u.2.1 11 2), .int (msk (u.2.2.2 1)), .long (u.1 9 0)])), (n0, .inr (6, [.ref n1, .ref n2, .ref n3, .ref n4, .ref n5, .ref n6, .ref n7, .ref n8, .int (u.2.1 11 0), .int (u.2.1 11 1)])), (n6, zaJ k 3 (u.1 2))] H := hP
  have hD : va_D A [(hm, .inr (7, [.ref p0, .ref c0, .ref n0, .ref b0, .ref e0, .ref f0, .ref l1, .ref l2, .ref l3, .ref l4, .ref l5, .int (u.2.1 11 2), .int (msk (u.2.2.2 1)), .long (u.1 9 0)])), (n0, .inr (6, [.ref n1, .ref n2, .ref n3, .ref n4, .ref n5, .ref n6, .ref n7, .ref n8, .int (u.2.1 11 0), .int (u.2.1 11 1)])), (n6, zaJ k 3 (u.1 2))] := hD
  have hP9 := hP.sub (ws' := [(hm, .inr (7, [.ref p0, .ref c0, .ref n0, .ref b0, .ref e0, .ref f0, .ref l1, .ref l2, .ref l3, .ref l4, .ref l5, .int (u.2.1 11 2), .int (msk (u.2.2.2 1)), .long (u.1 9 0)])), (n0, .inr (6, [.ref n1, .ref n2, .ref n3, .ref n4, .ref n5, .ref n6, .ref n7, .ref n8, .int (u.2.1 11 0), .int (u.2.1 11 1)])), (n6, zaJ k 3 (u.1 2))]) [0, 1, 2] rfl
  have hD9 := hD.sub (ws' := [(hm, .inr (7, [.ref p0, .ref c0, .ref n0, .ref b0, .ref e0, .ref f0, .ref l1, .ref l2, .ref l3, .ref l4, .ref l5, .int (u.2.1 11 2), .int (msk (u.2.2.2 1)), .long (u.1 9 0)])), (n0, .inr (6, [.ref n1, .ref n2, .ref n3, .ref n4, .ref n5, .ref n6, .ref n7, .ref n8, .int (u.2.1 11 0), .int (u.2.1 11 1)])), (n6, zaJ k 3 (u.1 2))]) [0, 1, 2] (by decide) rfl
  exact W.lret (v := if zin a 0 ((3 : Int) - 1) then (u.1 2) a.toNatClampNeg else 0) hx hb hr (fun t9 ht9 hW9 => ⟨⟨(if zin a 0 ((3 : Int) - 1) then (u.1 2) a.toNatClampNeg else 0), [(hm, .inr (7, [.ref p0, .ref c0, .ref n0, .ref b0, .ref e0, .ref f0, .ref l1, .ref l2, .ref l3, .ref l4, .ref l5, .int (u.2.1 11 2), .int (msk (u.2.2.2 1)), .long (u.1 9 0)])), (n0, .inr (6, [.ref n1, .ref n2, .ref n3, .ref n4, .ref n5, .ref n6, .ref n7, .ref n8, .int (u.2.1 11 0), .int (u.2.1 11 1)])), (n6, zaJ k 3 (u.1 2))], rfl, ⟨by rfl, rfl⟩, by rw [ht9]; exact hP9, hD9⟩, hS.F ht9⟩) hS.2.2 dX8_gyro_11
set_option maxHeartbeats 4000000 in
set_option maxRecDepth 100000 in
theorem c_X8_accelerometer (l : Launch) (D : va_G) (k : Nat → ClassId) (sz : Nat) (hm p0 c0 n0 n1 n2 n3 n4 n5 n6 n7 n8 b0 e0 f0 l1 l2 l3 l4 l5 : Nat) (u : zS) (a : Int32) : Met l yX8_accelerometer wsX8_accelerometer ({ frames := 1, cells := 0, slots := 0, locals := 21 } : Room) (va_Pc [.ref hm, .int a] (zPre D k [(hm, .inr (7, [.ref p0, .ref c0, .ref n0, .ref b0, .ref e0, .ref f0, .ref l1, .ref l2, .ref l3, .ref l4, .ref l5, .int (u.2.1 11 2), .int (msk (u.2.2.2 1)), .long (u.1 9 0)])), (n0, .inr (6, [.ref n1, .ref n2, .ref n3, .ref n4, .ref n5, .ref n6, .ref n7, .ref n8, .int (u.2.1 11 0), .int (u.2.1 11 1)])), (n7, zaJ k 3 (u.1 3))] sz zN)) (zQl D [(hm, .inr (7, [.ref p0, .ref c0, .ref n0, .ref b0, .ref e0, .ref f0, .ref l1, .ref l2, .ref l3, .ref l4, .ref l5, .int (u.2.1 11 2), .int (msk (u.2.2.2 1)), .long (u.1 9 0)])), (n0, .inr (6, [.ref n1, .ref n2, .ref n3, .ref n4, .ref n5, .ref n6, .ref n7, .ref n8, .int (u.2.1 11 0), .int (u.2.1 11 1)])), (n7, zaJ k 3 (u.1 3))] sz (if zin a 0 ((3 : Nat) - 1 : Int) then (u.1 3) a.toNatClampNeg else 0) (fun w : va_W => w = [(hm, .inr (7, [.ref p0, .ref c0, .ref n0, .ref b0, .ref e0, .ref f0, .ref l1, .ref l2, .ref l3, .ref l4, .ref l5, .int (u.2.1 11 2), .int (msk (u.2.2.2 1)), .long (u.1 9 0)])), (n0, .inr (6, [.ref n1, .ref n2, .ref n3, .ref n4, .ref n5, .ref n6, .ref n7, .ref n8, .int (u.2.1 11 0), .int (u.2.1 11 1)])), (n7, zaJ k 3 (u.1 3))])) 0 0 (va_A [(hm, .inr (7, [.ref p0, .ref c0, .ref n0, .ref b0, .ref e0, .ref f0, .ref l1, .ref l2, .ref l3, .ref l4, .ref l5, .int (u.2.1 11 2), .int (msk (u.2.2.2 1)), .long (u.1 9 0)])), (n0, .inr (6, [.ref n1, .ref n2, .ref n3, .ref n4, .ref n5, .ref n6, .ref n7, .ref n8, .int (u.2.1 11 0), .int (u.2.1 11 1)])), (n7, zaJ k 3 (u.1 3))] sz) := by
  refine Met.ofW (cc := cX8_accelerometer) (maxL := 2) (ret := (some .long)) (by decide) rfl ?_
  intro p e s m args below meth c s₁ B hml hv
  obtain ⟨rfl, hsz, hP, hK, hD0, hE⟩ := hv
  have hx := B.exec
  have hb := B.bytes
  have hr := B.returns
  have hts := atoms_spec (ws := wsX8_accelerometer) B.pre
  have hown : s.vm.findClass RX8 = some m.cls := findClass_of_methodNamed B.named
  have hlocks := B.notSynchronized
  subst hsz
  have hD := hD0.self (sz := s.heap.size)
  delta zQl zB
  generalize hAe : va_A [(hm, .inr (7, [.ref p0, .ref c0, .ref n0, .ref b0, .ref e0, .ref f0, .ref l1, .ref l2, .ref l3, .ref l4, .ref l5, .int (u.2.1 11 2), .int (msk (u.2.2.2 1)), .long (u.1 9 0)])), (n0, .inr (6, [.ref n1, .ref n2, .ref n3, .ref n4, .ref n5, .ref n6, .ref n7, .ref n8, .int (u.2.1 11 0), .int (u.2.1 11 1)])), (n7, zaJ k 3 (u.1 3))] s.heap.size = A at hD hE ⊢
  have hA : ∀ q : Nat, s.heap.size ≤ q → A q := fun q h => by rw [← hAe]; exact Or.inr h
  have hS : va_S A s.heap s.heap [] := va_S.rf
  have hl := lv_entry [.ref hm, .int a] (n := 2) (Nat.le_of_ble_eq_true rfl)
  rw [lg_entry_eq]
  generalize (lg_sl [.ref hm, .int a] ++ List.replicate (2 - (lg_sl [.ref hm, .int a]).length) Slot.unset).toArray = ls at hl ⊢
  have hl : lv_has ls 2 [(0, .ref hm), (1, .int a)] := hl
  have hl26 : (Cond.fieldLink RX8 26 "InertialReference" "sensors" "LInertialReference$Sensors;").before #[Value.ref hm, Value.int a] s = true := zw hts 1 rfl
  have hinX8 : ∀ w ∈ u_ws RX8 TX8 14, w ∈ wsX8_accelerometer := fun w h => List.mem_cons_of_mem _ (List.mem_append_left _ (List.mem_append_right _ h))
  have hl139 : (Cond.fieldLinkNest RX8 139 "InertialReference$Sensors" "accelerometerReadings" "[J" "InertialReference").before #[Value.ref hm, Value.int a] s = true := va_Nw.use rfl (zn_RX8_139 hE)
  have hinX7 : ∀ w ∈ u_ws RX7 TX7 10, w ∈ wsX8_accelerometer := fun w h => List.mem_cons_of_mem _ (List.mem_append_right _ h)
  refine lv_aload_n hx hb dX8_accelerometer_0 rfl (lv_at hl 0 rfl) ?_
  refine va_get (D := D) (ci := 7) (v := .ref n0) (C := RX8) (T := TX8) (N := 14) hx hb hts hinX8 hown hK hP 0 rfl rfl 2 (Nat.le_of_ble_eq_true rfl) hl26 (fun _ h9 => h9) rfl dX8_accelerometer_1 ?_
  refine va_getN (D := D) (ci := 6) (v := .ref n7) (C := RX7) (T := TX7) (N := 10) hx hb hts hinX7 hown hK hP 1 rfl rfl 6 (Nat.le_of_ble_eq_true rfl) hl139 (fun _ h9 => h9) rfl dX8_accelerometer_4 ?_
  refine lv_iload_n hx hb dX8_accelerometer_7 rfl (lv_at hl 1 rfl) ?_
  refine z_calll0 (wc := [(n7, zaJ k 3 (u.1 3))]) (wr := [(hm, .inr (7, [.ref p0, .ref c0, .ref n0, .ref b0, .ref e0, .ref f0, .ref l1, .ref l2, .ref l3, .ref l4, .ref l5, .int (u.2.1 11 2), .int (msk (u.2.2.2 1)), .long (u.1 9 0)])), (n0, .inr (6, [.ref n1, .ref n2, .ref n3, .ref n4, .ref n5, .ref n6, .ref n7, .ref n8, .int (u.2.1 11 0), .int (u.2.1 11 1)]))]) (va_runS (As := [.ref n7, .int a]) (rest := []) ⟨hx, hb, hml, hown, hts⟩ (c_X5_at l D k s.heap.size n7 3 (u.1 3) a (by decide)) (va_cwS 2 hts gX8_accelerometer_X5_at rfl rfl rfl (by decide +kernel) ⟨Nat.le_of_ble_eq_true rfl, Nat.le_of_ble_eq_true rfl⟩) (z_preS (wc := [(n7, zaJ k 3 (u.1 3))]) hP hD hK [2] rfl rfl zb0 zp0) rfl rfl hl.1 rfl (lv_room (Nat.le_of_ble_eq_true rfl)) dX8_accelerometer_8 ⟨Nat.zero_le _, Nat.zero_le _⟩) hP hD hS hA [2] [0, 1] rfl rfl rfl (by decide) (fun w H locs hF hP hD hS => ?_)
  subst hF
  have hP : va_P D vwCl [(hm, .inr (7, [.ref p0, .ref c0, .ref n0, .ref b0, .ref e0, .ref f0, .ref l1, .ref l2, .ref l3, .ref l4, .ref l5, .int (u.2.1 11 2), .int (msk (u.2.2.2 1)), .long (u.1 9 0)])), (n0, .inr (6, [.ref n1, .ref n2, .ref n3, .ref n4, .ref n5, .ref n6, .ref n7, .ref n8, .int (u.2.1 11 0), .int (u.2.1 11 1)])), (n7, zaJ k 3 (u.1 3))] H := hP
  have hD : va_D A [(hm, .inr (7, [.ref p0, .ref c0, .ref n0, .ref b0, .ref e0, .ref f0, .ref l1, .ref l2, .ref l3, .ref l4, .ref l5, .int (u.2.1 11 2), .int (msk (u.2.2.2 1)), .long (u.1 9 0)])), (n0, .inr (6, [.ref n1, .ref n2, .ref n3, .ref n4, .ref n5, .ref n6, .ref n7, .ref n8, .int (u.2.1 11 0), .int (u.2.1 11 1)])), (n7, zaJ k 3 (u.1 3))] := hD
  have hP9 := hP.sub (ws' := [(hm, .inr (7, [.ref p0, .ref c0, .ref n0, .ref b0, .ref e0, .ref f0, .ref l1, .ref l2, .ref l3, .ref l4, .ref l5, .int (u.2.1 11 2), .int (msk (u.2.2.2 1)), .long (u.1 9 0)])), (n0, .inr (6, [.ref n1, .ref n2, .ref n3, .ref n4, .ref n5, .ref n6, .ref n7, .ref n8, .int (u.2.1 11 0), .int (u.2.1 11 1)])), (n7, zaJ k 3 (u.1 3))]) [0, 1, 2] rfl
  have hD9 := hD.sub (ws' := [(hm, .inr (7, [.ref p0, .ref c0, .ref n0, .ref b0, .ref e0, .ref f0, .ref l1, .ref l2, .ref l3, .ref l4, .ref l5, .int (u.2.1 11 2), .int (msk (u.2.2.2 1)), .long (u.1 9 0)])), (n0, .inr (6, [.ref n1, .ref n2, .ref n3, .ref n4, .ref n5, .ref n6, .ref n7, .ref n8, .int (u.2.1 11 0), .int (u.2.1 11 1)])), (n7, zaJ k 3 (u.1 3))]) [0, 1, 2] (by decide) rfl
  exact W.lret (v := if zin a 0 ((3 : Int) - 1) then (u.1 3) a.toNatClampNeg else 0) hx hb hr (fun t9 ht9 hW9 => ⟨⟨(if zin a 0 ((3 : Int) - 1) then (u.1 3) a.toNatClampNeg else 0), [(hm, .inr (7, [.ref p0, .ref c0, .ref n0, .ref b0, .ref e0, .ref f0, .ref l1, .ref l2, .ref l3, .ref l4, .ref l5, .int (u.2.1 11 2), .int (msk (u.2.2.2 1)), .long (u.1 9 0)])), (n0, .inr (6, [.ref n1, .ref n2, .ref n3, .ref n4, .ref n5, .ref n6, .ref n7, .ref n8, .int (u.2.1 11 0), .int (u.2.1 11 1)])), (n7, zaJ k 3 (u.1 3))], rfl, ⟨by rfl, rfl⟩, by rw [ht9]; exact hP9, hD9⟩, hS.F ht9⟩) hS.2.2 dX8_accelerometer_11
set_option maxHeartbeats 4000000 in
set_option maxRecDepth 100000 in
theorem c_X8_biasEstimate (l : Launch) (D : va_G) (k : Nat → ClassId) (sz : Nat) (hm p0 c0 n0 b0 e0 e1 e2 e3 e4 e5 e6 e7 g0 q0 f0 l1 l2 l3 l4 l5 : Nat) (u : zS) (a : Int32) : Met l yX8_biasEstimate wsX8_biasEstimate ({ frames := 1, cells := 0, slots := 0, locals := 21 } : Room) (va_Pc [.ref hm, .int a] (zPre D k [(hm, .inr (7, [.ref p0, .ref c0, .ref n0, .ref b0, .ref e0, .ref f0, .ref l1, .ref l2, .ref l3, .ref l4, .ref l5, .int (u.2.1 11 2), .int (msk (u.2.2.2 1)), .long (u.1 9 0)])), (e0, .inr (4, [.ref g0, .ref q0, .ref e1, .ref e2, .ref e3, .ref e4, .ref e5, .ref e6, .ref e7, .int (u.2.1 11 3), .int (u.2.1 11 4), .int (u.2.1 11 5)])), (e1, zaJ k 3 (u.1 4))] sz zN)) (zQl D [(hm, .inr (7, [.ref p0, .ref c0, .ref n0, .ref b0, .ref e0, .ref f0, .ref l1, .ref l2, .ref l3, .ref l4, .ref l5, .int (u.2.1 11 2), .int (msk (u.2.2.2 1)), .long (u.1 9 0)])), (e0, .inr (4, [.ref g0, .ref q0, .ref e1, .ref e2, .ref e3, .ref e4, .ref e5, .ref e6, .ref e7, .int (u.2.1 11 3), .int (u.2.1 11 4), .int (u.2.1 11 5)])), (e1, zaJ k 3 (u.1 4))] sz (if zin a 0 ((3 : Nat) - 1 : Int) then (u.1 4) a.toNatClampNeg else 0) (fun w : va_W => w = [(hm, .inr (7, [.ref p0, .ref c0, .ref n0, .ref b0, .ref e0, .ref f0, .ref l1, .ref l2, .ref l3, .ref l4, .ref l5, .int (u.2.1 11 2), .int (msk (u.2.2.2 1)), .long (u.1 9 0)])), (e0, .inr (4, [.ref g0, .ref q0, .ref e1, .ref e2, .ref e3, .ref e4, .ref e5, .ref e6, .ref e7, .int (u.2.1 11 3), .int (u.2.1 11 4), .int (u.2.1 11 5)])), (e1, zaJ k 3 (u.1 4))])) 0 0 (va_A [(hm, .inr (7, [.ref p0, .ref c0, .ref n0, .ref b0, .ref e0, .ref f0, .ref l1, .ref l2, .ref l3, .ref l4, .ref l5, .int (u.2.1 11 2), .int (msk (u.2.2.2 1)), .long (u.1 9 0)])), (e0, .inr (4, [.ref g0, .ref q0, .ref e1, .ref e2, .ref e3, .ref e4, .ref e5, .ref e6, .ref e7, .int (u.2.1 11 3), .int (u.2.1 11 4), .int (u.2.1 11 5)])), (e1, zaJ k 3 (u.1 4))] sz) := by
  refine Met.ofW (cc := cX8_biasEstimate) (maxL := 2) (ret := (some .long)) (by decide) rfl ?_
  intro p e s m args below meth c s₁ B hml hv
  obtain ⟨rfl, hsz, hP, hK, hD0, hE⟩ := hv
  have hx := B.exec
  have hb := B.bytes
  have hr := B.returns
  have hts := atoms_spec (ws := wsX8_biasEstimate) B.pre
  have hown : s.vm.findClass RX8 = some m.cls := findClass_of_methodNamed B.named
  have hlocks := B.notSynchronized
  subst hsz
  have hD := hD0.self (sz := s.heap.size)
  delta zQl zB
  generalize hAe : va_A [(hm, .inr (7, [.ref p0, .ref c0, .ref n0, .ref b0, .ref e0, .ref f0, .ref l1, .ref l2, .ref l3, .ref l4, .ref l5, .int (u.2.1 11 2), .int (msk (u.2.2.2 1)), .long (u.1 9 0)])), (e0, .inr (4, [.ref g0, .ref q0, .ref e1, .ref e2, .ref e3, .ref e4, .ref e5, .ref e6, .ref e7, .int (u.2.1 11 3), .int (u.2.1 11 4), .int (u.2.1 11 5)])), (e1, zaJ k 3 (u.1 4))] s.heap.size = A at hD hE ⊢
  have hA : ∀ q : Nat, s.heap.size ≤ q → A q := fun q h => by rw [← hAe]; exact Or.inr h
  have hS : va_S A s.heap s.heap [] := va_S.rf
  have hl := lv_entry [.ref hm, .int a] (n := 2) (Nat.le_of_ble_eq_true rfl)
  rw [lg_entry_eq]
  generalize (lg_sl [.ref hm, .int a] ++ List.replicate (2 - (lg_sl [.ref hm, .int a]).length) Slot.unset).toArray = ls at hl ⊢
  have hl : lv_has ls 2 [(0, .ref hm), (1, .int a)] := hl
  have hl40 : (Cond.fieldLink RX8 40 "InertialReference" "estimator" "LInertialReference$Estimator;").before #[Value.ref hm, Value.int a] s = true := zw hts 1 rfl
  have hinX8 : ∀ w ∈ u_ws RX8 TX8 14, w ∈ wsX8_biasEstimate := fun w h => List.mem_cons_of_mem _ (List.mem_append_left _ (List.mem_append_right _ h))
  have hl167 : (Cond.fieldLinkNest RX8 167 "InertialReference$Estimator" "bias" "[J" "InertialReference").before #[Value.ref hm, Value.int a] s = true := va_Nw.use rfl (zn_RX8_167 hE)
  have hinX4 : ∀ w ∈ u_ws RX4 TX4 12, w ∈ wsX8_biasEstimate := fun w h => List.mem_cons_of_mem _ (List.mem_append_right _ h)
  refine lv_aload_n hx hb dX8_biasEstimate_0 rfl (lv_at hl 0 rfl) ?_
  refine va_get (D := D) (ci := 7) (v := .ref e0) (C := RX8) (T := TX8) (N := 14) hx hb hts hinX8 hown hK hP 0 rfl rfl 4 (Nat.le_of_ble_eq_true rfl) hl40 (fun _ h9 => h9) rfl dX8_biasEstimate_1 ?_
  refine va_getN (D := D) (ci := 4) (v := .ref e1) (C := RX4) (T := TX4) (N := 12) hx hb hts hinX4 hown hK hP 1 rfl rfl 2 (Nat.le_of_ble_eq_true rfl) hl167 (fun _ h9 => h9) rfl dX8_biasEstimate_4 ?_
  refine lv_iload_n hx hb dX8_biasEstimate_7 rfl (lv_at hl 1 rfl) ?_
  refine z_calll0 (wc := [(e1, zaJ k 3 (u.1 4))]) (wr := [(hm, .inr (7, [.ref p0, .ref c0, .ref n0, .ref b0, .ref e0, .ref f0, .ref l1, .ref l2, .ref l3, .ref l4, .ref l5, .int (u.2.1 11 2), .int (msk (u.2.2.2 1)), .long (u.1 9 0)])), (e0, .inr (4, [.ref g0, .ref q0, .ref e1, .ref e2, .ref e3, .ref e4, .ref e5, .ref e6, .ref e7, .int (u.2.1 11 3), .int (u.2.1 11 4), .int (u.2.1 11 5)]))]) (va_runS (As := [.ref e1, .int a]) (rest := []) ⟨hx, hb, hml, hown, hts⟩ (c_X5_at l D k s.heap.size e1 3 (u.1 4) a (by decide)) (va_cwS 2 hts gX8_biasEstimate_X5_at rfl rfl rfl (by decide +kernel) ⟨Nat.le_of_ble_eq_true rfl, Nat.le_of_ble_eq_true rfl⟩) (z_preS (wc := [(e1, zaJ k 3 (u.1 4))]) hP hD hK [2] rfl rfl zb0 zp0) rfl rfl hl.1 rfl (lv_room (Nat.le_of_ble_eq_true rfl)) dX8_biasEstimate_8 ⟨Nat.zero_le _, Nat.zero_le _⟩) hP hD hS hA [2] [0, 1] rfl rfl rfl (by decide) (fun w H locs hF hP hD hS => ?_)
  subst hF
  have hP : va_P D vwCl [(hm, .inr (7, [.ref p0, .ref c0, .ref n0, .ref b0, .ref e0, .ref f0, .ref l1, .ref l2, .ref l3, .ref l4, .ref l5, .int (u.2.1 11 2), .int (msk (u.2.2.2 1)), .long (u.1 9 0)])), (e0, .inr (4, [.ref g0, .ref q0, .ref e1, .ref e2, .ref e3, .ref e4, .ref e5, .ref e6, .ref e7, .int (u.2.1 11 3), .int (u.2.1 11 4), .int (u.2.1 11 5)])), (e1, zaJ k 3 (u.1 4))] H := hP
  have hD : va_D A [(hm, .inr (7, [.ref p0, .ref c0, .ref n0, .ref b0, .ref e0, .ref f0, .ref l1, .ref l2, .ref l3, .ref l4, .ref l5, .int (u.2.1 11 2), .int (msk (u.2.2.2 1)), .long (u.1 9 0)])), (e0, .inr (4, [.ref g0, .ref q0, .ref e1, .ref e2, .ref e3, .ref e4, .ref e5, .ref e6, .ref e7, .int (u.2.1 11 3), .int (u.2.1 11 4), .int (u.2.1 11 5)])), (e1, zaJ k 3 (u.1 4))] := hD
  have hP9 := hP.sub (ws' := [(hm, .inr (7, [.ref p0, .ref c0, .ref n0, .ref b0, .ref e0, .ref f0, .ref l1, .ref l2, .ref l3, .ref l4, .ref l5, .int (u.2.1 11 2), .int (msk (u.2.2.2 1)), .long (u.1 9 0)])), (e0, .inr (4, [.ref g0, .ref q0, .ref e1, .ref e2, .ref e3, .ref e4, .ref e5, .ref e6, .ref e7, .int (u.2.1 11 3), .int (u.2.1 11 4), .int (u.2.1 11 5)])), (e1, zaJ k 3 (u.1 4))]) [0, 1, 2] rfl
  have hD9 := hD.sub (ws' := [(hm, .inr (7, [.ref p0, .ref c0, .ref n0, .ref b0, .ref e0, .ref f0, .ref l1, .ref l2, .ref l3, .ref l4, .ref l5, .int (u.2.1 11 2), .int (msk (u.2.2.2 1)), .long (u.1 9 0)])), (e0, .inr (4, [.ref g0, .ref q0, .ref e1, .ref e2, .ref e3, .ref e4, .ref e5, .ref e6, .ref e7, .int (u.2.1 11 3), .int (u.2.1 11 4), .int (u.2.1 11 5)])), (e1, zaJ k 3 (u.1 4))]) [0, 1, 2] (by decide) rfl
  exact W.lret (v := if zin a 0 ((3 : Int) - 1) then (u.1 4) a.toNatClampNeg else 0) hx hb hr (fun t9 ht9 hW9 => ⟨⟨(if zin a 0 ((3 : Int) - 1) then (u.1 4) a.toNatClampNeg else 0), [(hm, .inr (7, [.ref p0, .ref c0, .ref n0, .ref b0, .ref e0, .ref f0, .ref l1, .ref l2, .ref l3, .ref l4, .ref l5, .int (u.2.1 11 2), .int (msk (u.2.2.2 1)), .long (u.1 9 0)])), (e0, .inr (4, [.ref g0, .ref q0, .ref e1, .ref e2, .ref e3, .ref e4, .ref e5, .ref e6, .ref e7, .int (u.2.1 11 3), .int (u.2.1 11 4), .int (u.2.1 11 5)])), (e1, zaJ k 3 (u.1 4))], rfl, ⟨by rfl, rfl⟩, by rw [ht9]; exact hP9, hD9⟩, hS.F ht9⟩) hS.2.2 dX8_biasEstimate_11
set_option maxHeartbeats 4000000 in
set_option maxRecDepth 100000 in
theorem c_X8_estimate (l : Launch) (D : va_G) (k : Nat → ClassId) (sz : Nat) (hm p0 c0 n0 b0 e0 e1 e2 e3 e4 e5 e6 e7 g0 g1 g2 g3 g4 g5 q0 f0 l1 l2 l3 l4 l5 : Nat) (u : zS) (a : Int32) : Met l yX8_estimate wsX8_estimate ({ frames := 1, cells := 0, slots := 0, locals := 21 } : Room) (va_Pc [.ref hm, .int a] (zPre D k [(hm, .inr (7, [.ref p0, .ref c0, .ref n0, .ref b0, .ref e0, .ref f0, .ref l1, .ref l2, .ref l3, .ref l4, .ref l5, .int (u.2.1 11 2), .int (msk (u.2.2.2 1)), .long (u.1 9 0)])), (e0, .inr (4, [.ref g0, .ref q0, .ref e1, .ref e2, .ref e3, .ref e4, .ref e5, .ref e6, .ref e7, .int (u.2.1 11 3), .int (u.2.1 11 4), .int (u.2.1 11 5)])), (g0, .inr (0, [.ref g1, .ref g2, .ref g3, .ref g4, .ref g5])), (g1, zaJ k 4 (u.1 1))] sz zN)) (zQl D [(hm, .inr (7, [.ref p0, .ref c0, .ref n0, .ref b0, .ref e0, .ref f0, .ref l1, .ref l2, .ref l3, .ref l4, .ref l5, .int (u.2.1 11 2), .int (msk (u.2.2.2 1)), .long (u.1 9 0)])), (e0, .inr (4, [.ref g0, .ref q0, .ref e1, .ref e2, .ref e3, .ref e4, .ref e5, .ref e6, .ref e7, .int (u.2.1 11 3), .int (u.2.1 11 4), .int (u.2.1 11 5)])), (g0, .inr (0, [.ref g1, .ref g2, .ref g3, .ref g4, .ref g5])), (g1, zaJ k 4 (u.1 1))] sz (if zin a 0 ((4 : Nat) - 1 : Int) then (u.1 1) a.toNatClampNeg else 0) (fun w : va_W => w = [(hm, .inr (7, [.ref p0, .ref c0, .ref n0, .ref b0, .ref e0, .ref f0, .ref l1, .ref l2, .ref l3, .ref l4, .ref l5, .int (u.2.1 11 2), .int (msk (u.2.2.2 1)), .long (u.1 9 0)])), (e0, .inr (4, [.ref g0, .ref q0, .ref e1, .ref e2, .ref e3, .ref e4, .ref e5, .ref e6, .ref e7, .int (u.2.1 11 3), .int (u.2.1 11 4), .int (u.2.1 11 5)])), (g0, .inr (0, [.ref g1, .ref g2, .ref g3, .ref g4, .ref g5])), (g1, zaJ k 4 (u.1 1))])) 0 0 (va_A [(hm, .inr (7, [.ref p0, .ref c0, .ref n0, .ref b0, .ref e0, .ref f0, .ref l1, .ref l2, .ref l3, .ref l4, .ref l5, .int (u.2.1 11 2), .int (msk (u.2.2.2 1)), .long (u.1 9 0)])), (e0, .inr (4, [.ref g0, .ref q0, .ref e1, .ref e2, .ref e3, .ref e4, .ref e5, .ref e6, .ref e7, .int (u.2.1 11 3), .int (u.2.1 11 4), .int (u.2.1 11 5)])), (g0, .inr (0, [.ref g1, .ref g2, .ref g3, .ref g4, .ref g5])), (g1, zaJ k 4 (u.1 1))] sz) := by
  refine Met.ofW (cc := cX8_estimate) (maxL := 2) (ret := (some .long)) (by decide) rfl ?_
  intro p e s m args below meth c s₁ B hml hv
  obtain ⟨rfl, hsz, hP, hK, hD0, hE⟩ := hv
  have hx := B.exec
  have hb := B.bytes
  have hr := B.returns
  have hts := atoms_spec (ws := wsX8_estimate) B.pre
  have hown : s.vm.findClass RX8 = some m.cls := findClass_of_methodNamed B.named
  have hlocks := B.notSynchronized
  subst hsz
  have hD := hD0.self (sz := s.heap.size)
  delta zQl zB
  generalize hAe : va_A [(hm, .inr (7, [.ref p0, .ref c0, .ref n0, .ref b0, .ref e0, .ref f0, .ref l1, .ref l2, .ref l3, .ref l4, .ref l5, .int (u.2.1 11 2), .int (msk (u.2.2.2 1)), .long (u.1 9 0)])), (e0, .inr (4, [.ref g0, .ref q0, .ref e1, .ref e2, .ref e3, .ref e4, .ref e5, .ref e6, .ref e7, .int (u.2.1 11 3), .int (u.2.1 11 4), .int (u.2.1 11 5)])), (g0, .inr (0, [.ref g1, .ref g2, .ref g3, .ref g4, .ref g5])), (g1, zaJ k 4 (u.1 1))] s.heap.size = A at hD hE ⊢
  have hA : ∀ q : Nat, s.heap.size ≤ q → A q := fun q h => by rw [← hAe]; exact Or.inr h
  have hS : va_S A s.heap s.heap [] := va_S.rf
  have hl := lv_entry [.ref hm, .int a] (n := 2) (Nat.le_of_ble_eq_true rfl)
  rw [lg_entry_eq]
  generalize (lg_sl [.ref hm, .int a] ++ List.replicate (2 - (lg_sl [.ref hm, .int a]).length) Slot.unset).toArray = ls at hl ⊢
  have hl : lv_has ls 2 [(0, .ref hm), (1, .int a)] := hl
  have hl40 : (Cond.fieldLink RX8 40 "InertialReference" "estimator" "LInertialReference$Estimator;").before #[Value.ref hm, Value.int a] s = true := zw hts 1 rfl
  have hinX8 : ∀ w ∈ u_ws RX8 TX8 14, w ∈ wsX8_estimate := fun w h => List.mem_cons_of_mem _ (List.mem_append_left _ (List.mem_append_left _ (List.mem_append_right _ h)))
  have hl196 : (Cond.fieldLinkNest RX8 196 "InertialReference$Estimator" "attitude" "LInertialReference$Attitude;" "InertialReference").before #[Value.ref hm, Value.int a] s = true := va_Nw.use rfl (zn_RX8_196 hE)
  have hinX4 : ∀ w ∈ u_ws RX4 TX4 12, w ∈ wsX8_estimate := fun w h => List.mem_cons_of_mem _ (List.mem_append_left _ (List.mem_append_right _ h))
  have hl199 : (Cond.fieldLinkNest RX8 199 "InertialReference$Attitude" "parts" "[J" "InertialReference").before #[Value.ref hm, Value.int a] s = true := va_Nw.use rfl (zn_RX8_199 hE)
  have hinX0 : ∀ w ∈ u_ws RX0 TX0 5, w ∈ wsX8_estimate := fun w h => List.mem_cons_of_mem _ (List.mem_append_right _ h)
  refine lv_aload_n hx hb dX8_estimate_0 rfl (lv_at hl 0 rfl) ?_
  refine va_get (D := D) (ci := 7) (v := .ref e0) (C := RX8) (T := TX8) (N := 14) hx hb hts hinX8 hown hK hP 0 rfl rfl 4 (Nat.le_of_ble_eq_true rfl) hl40 (fun _ h9 => h9) rfl dX8_estimate_1 ?_
  refine va_getN (D := D) (ci := 4) (v := .ref g0) (C := RX4) (T := TX4) (N := 12) hx hb hts hinX4 hown hK hP 1 rfl rfl 0 (Nat.le_of_ble_eq_true rfl) hl196 (fun _ h9 => h9) rfl dX8_estimate_4 ?_
  refine va_getN (D := D) (ci := 0) (v := .ref g1) (C := RX0) (T := TX0) (N := 5) hx hb hts hinX0 hown hK hP 2 rfl rfl 0 (Nat.le_of_ble_eq_true rfl) hl199 (fun _ h9 => h9) rfl dX8_estimate_7 ?_
  refine lv_iload_n hx hb dX8_estimate_10 rfl (lv_at hl 1 rfl) ?_
  refine z_calll0 (wc := [(g1, zaJ k 4 (u.1 1))]) (wr := [(hm, .inr (7, [.ref p0, .ref c0, .ref n0, .ref b0, .ref e0, .ref f0, .ref l1, .ref l2, .ref l3, .ref l4, .ref l5, .int (u.2.1 11 2), .int (msk (u.2.2.2 1)), .long (u.1 9 0)])), (e0, .inr (4, [.ref g0, .ref q0, .ref e1, .ref e2, .ref e3, .ref e4, .ref e5, .ref e6, .ref e7, .int (u.2.1 11 3), .int (u.2.1 11 4), .int (u.2.1 11 5)])), (g0, .inr (0, [.ref g1, .ref g2, .ref g3, .ref g4, .ref g5]))]) (va_runS (As := [.ref g1, .int a]) (rest := []) ⟨hx, hb, hml, hown, hts⟩ (c_X5_at l D k s.heap.size g1 4 (u.1 1) a (by decide)) (va_cwS 2 hts gX8_estimate_X5_at rfl rfl rfl (by decide +kernel) ⟨Nat.le_of_ble_eq_true rfl, Nat.le_of_ble_eq_true rfl⟩) (z_preS (wc := [(g1, zaJ k 4 (u.1 1))]) hP hD hK [3] rfl rfl zb0 zp0) rfl rfl hl.1 rfl (lv_room (Nat.le_of_ble_eq_true rfl)) dX8_estimate_11 ⟨Nat.zero_le _, Nat.zero_le _⟩) hP hD hS hA [3] [0, 1, 2] rfl rfl rfl (by decide) (fun w H locs hF hP hD hS => ?_)
  subst hF
  have hP : va_P D vwCl [(hm, .inr (7, [.ref p0, .ref c0, .ref n0, .ref b0, .ref e0, .ref f0, .ref l1, .ref l2, .ref l3, .ref l4, .ref l5, .int (u.2.1 11 2), .int (msk (u.2.2.2 1)), .long (u.1 9 0)])), (e0, .inr (4, [.ref g0, .ref q0, .ref e1, .ref e2, .ref e3, .ref e4, .ref e5, .ref e6, .ref e7, .int (u.2.1 11 3), .int (u.2.1 11 4), .int (u.2.1 11 5)])), (g0, .inr (0, [.ref g1, .ref g2, .ref g3, .ref g4, .ref g5])), (g1, zaJ k 4 (u.1 1))] H := hP
  have hD : va_D A [(hm, .inr (7, [.ref p0, .ref c0, .ref n0, .ref b0, .ref e0, .ref f0, .ref l1, .ref l2, .ref l3, .ref l4, .ref l5, .int (u.2.1 11 2), .int (msk (u.2.2.2 1)), .long (u.1 9 0)])), (e0, .inr (4, [.ref g0, .ref q0, .ref e1, .ref e2, .ref e3, .ref e4, .ref e5, .ref e6, .ref e7, .int (u.2.1 11 3), .int (u.2.1 11 4), .int (u.2.1 11 5)])), (g0, .inr (0, [.ref g1, .ref g2, .ref g3, .ref g4, .ref g5])), (g1, zaJ k 4 (u.1 1))] := hD
  have hP9 := hP.sub (ws' := [(hm, .inr (7, [.ref p0, .ref c0, .ref n0, .ref b0, .ref e0, .ref f0, .ref l1, .ref l2, .ref l3, .ref l4, .ref l5, .int (u.2.1 11 2), .int (msk (u.2.2.2 1)), .long (u.1 9 0)])), (e0, .inr (4, [.ref g0, .ref q0, .ref e1, .ref e2, .ref e3, .ref e4, .ref e5, .ref e6, .ref e7, .int (u.2.1 11 3), .int (u.2.1 11 4), .int (u.2.1 11 5)])), (g0, .inr (0, [.ref g1, .ref g2, .ref g3, .ref g4, .ref g5])), (g1, zaJ k 4 (u.1 1))]) [0, 1, 2, 3] rfl
  have hD9 := hD.sub (ws' := [(hm, .inr (7, [.ref p0, .ref c0, .ref n0, .ref b0, .ref e0, .ref f0, .ref l1, .ref l2, .ref l3, .ref l4, .ref l5, .int (u.2.1 11 2), .int (msk (u.2.2.2 1)), .long (u.1 9 0)])), (e0, .inr (4, [.ref g0, .ref q0, .ref e1, .ref e2, .ref e3, .ref e4, .ref e5, .ref e6, .ref e7, .int (u.2.1 11 3), .int (u.2.1 11 4), .int (u.2.1 11 5)])), (g0, .inr (0, [.ref g1, .ref g2, .ref g3, .ref g4, .ref g5])), (g1, zaJ k 4 (u.1 1))]) [0, 1, 2, 3] (by decide) rfl
  exact W.lret (v := if zin a 0 ((4 : Int) - 1) then (u.1 1) a.toNatClampNeg else 0) hx hb hr (fun t9 ht9 hW9 => ⟨⟨(if zin a 0 ((4 : Int) - 1) then (u.1 1) a.toNatClampNeg else 0), [(hm, .inr (7, [.ref p0, .ref c0, .ref n0, .ref b0, .ref e0, .ref f0, .ref l1, .ref l2, .ref l3, .ref l4, .ref l5, .int (u.2.1 11 2), .int (msk (u.2.2.2 1)), .long (u.1 9 0)])), (e0, .inr (4, [.ref g0, .ref q0, .ref e1, .ref e2, .ref e3, .ref e4, .ref e5, .ref e6, .ref e7, .int (u.2.1 11 3), .int (u.2.1 11 4), .int (u.2.1 11 5)])), (g0, .inr (0, [.ref g1, .ref g2, .ref g3, .ref g4, .ref g5])), (g1, zaJ k 4 (u.1 1))], rfl, ⟨by rfl, rfl⟩, by rw [ht9]; exact hP9, hD9⟩, hS.F ht9⟩) hS.2.2 dX8_estimate_14
set_option maxHeartbeats 4000000 in
set_option maxRecDepth 100000 in
theorem c_X8_truth (l : Launch) (D : va_G) (k : Nat → ClassId) (sz : Nat) (hm p0 p1 p2 p3 p4 p5 c0 n0 b0 e0 f0 l1 l2 l3 l4 l5 : Nat) (u : zS) (a : Int32) : Met l yX8_truth wsX8_truth ({ frames := 1, cells := 0, slots := 0, locals := 21 } : Room) (va_Pc [.ref hm, .int a] (zPre D k [(hm, .inr (7, [.ref p0, .ref c0, .ref n0, .ref b0, .ref e0, .ref f0, .ref l1, .ref l2, .ref l3, .ref l4, .ref l5, .int (u.2.1 11 2), .int (msk (u.2.2.2 1)), .long (u.1 9 0)])), (p0, .inr (0, [.ref p1, .ref p2, .ref p3, .ref p4, .ref p5])), (p1, zaJ k 4 (u.1 0))] sz zN)) (zQl D [(hm, .inr (7, [.ref p0, .ref c0, .ref n0, .ref b0, .ref e0, .ref f0, .ref l1, .ref l2, .ref l3, .ref l4, .ref l5, .int (u.2.1 11 2), .int (msk (u.2.2.2 1)), .long (u.1 9 0)])), (p0, .inr (0, [.ref p1, .ref p2, .ref p3, .ref p4, .ref p5])), (p1, zaJ k 4 (u.1 0))] sz (if zin a 0 ((4 : Nat) - 1 : Int) then (u.1 0) a.toNatClampNeg else 0) (fun w : va_W => w = [(hm, .inr (7, [.ref p0, .ref c0, .ref n0, .ref b0, .ref e0, .ref f0, .ref l1, .ref l2, .ref l3, .ref l4, .ref l5, .int (u.2.1 11 2), .int (msk (u.2.2.2 1)), .long (u.1 9 0)])), (p0, .inr (0, [.ref p1, .ref p2, .ref p3, .ref p4, .ref p5])), (p1, zaJ k 4 (u.1 0))])) 0 0 (va_A [(hm, .inr (7, [.ref p0, .ref c0, .ref n0, .ref b0, .ref e0, .ref f0, .ref l1, .ref l2, .ref l3, .ref l4, .ref l5, .int (u.2.1 11 2), .int (msk (u.2.2.2 1)), .long (u.1 9 0)])), (p0, .inr (0, [.ref p1, .ref p2, .ref p3, .ref p4, .ref p5])), (p1, zaJ k 4 (u.1 0))] sz) := by
  refine Met.ofW (cc := cX8_truth) (maxL := 2) (ret := (some .long)) (by decide) rfl ?_
  intro p e s m args below meth c s₁ B hml hv
  obtain ⟨rfl, hsz, hP, hK, hD0, hE⟩ := hv
  have hx := B.exec
  have hb := B.bytes
  have hr := B.returns
  have hts := atoms_spec (ws := wsX8_truth) B.pre
  have hown : s.vm.findClass RX8 = some m.cls := findClass_of_methodNamed B.named
  have hlocks := B.notSynchronized
  subst hsz
  have hD := hD0.self (sz := s.heap.size)
  delta zQl zB
  generalize hAe : va_A [(hm, .inr (7, [.ref p0, .ref c0, .ref n0, .ref b0, .ref e0, .ref f0, .ref l1, .ref l2, .ref l3, .ref l4, .ref l5, .int (u.2.1 11 2), .int (msk (u.2.2.2 1)), .long (u.1 9 0)])), (p0, .inr (0, [.ref p1, .ref p2, .ref p3, .ref p4, .ref p5])), (p1, zaJ k 4 (u.1 0))] s.heap.size = A at hD hE ⊢
  have hA : ∀ q : Nat, s.heap.size ≤ q → A q := fun q h => by rw [← hAe]; exact Or.inr h
  have hS : va_S A s.heap s.heap [] := va_S.rf
  have hl := lv_entry [.ref hm, .int a] (n := 2) (Nat.le_of_ble_eq_true rfl)
  rw [lg_entry_eq]
  generalize (lg_sl [.ref hm, .int a] ++ List.replicate (2 - (lg_sl [.ref hm, .int a]).length) Slot.unset).toArray = ls at hl ⊢
  have hl : lv_has ls 2 [(0, .ref hm), (1, .int a)] := hl
  have hl10 : (Cond.fieldLink RX8 10 "InertialReference" "trueAttitude" "LInertialReference$Attitude;").before #[Value.ref hm, Value.int a] s = true := zw hts 1 rfl
  have hinX8 : ∀ w ∈ u_ws RX8 TX8 14, w ∈ wsX8_truth := fun w h => List.mem_cons_of_mem _ (List.mem_append_left _ (List.mem_append_right _ h))
  have hl199 : (Cond.fieldLinkNest RX8 199 "InertialReference$Attitude" "parts" "[J" "InertialReference").before #[Value.ref hm, Value.int a] s = true := va_Nw.use rfl (zn_RX8_199 hE)
  have hinX0 : ∀ w ∈ u_ws RX0 TX0 5, w ∈ wsX8_truth := fun w h => List.mem_cons_of_mem _ (List.mem_append_right _ h)
  refine lv_aload_n hx hb dX8_truth_0 rfl (lv_at hl 0 rfl) ?_
  refine va_get (D := D) (ci := 7) (v := .ref p0) (C := RX8) (T := TX8) (N := 14) hx hb hts hinX8 hown hK hP 0 rfl rfl 0 (Nat.le_of_ble_eq_true rfl) hl10 (fun _ h9 => h9) rfl dX8_truth_1 ?_
  refine va_getN (D := D) (ci := 0) (v := .ref p1) (C := RX0) (T := TX0) (N := 5) hx hb hts hinX0 hown hK hP 1 rfl rfl 0 (Nat.le_of_ble_eq_true rfl) hl199 (fun _ h9 => h9) rfl dX8_truth_4 ?_
  refine lv_iload_n hx hb dX8_truth_7 rfl (lv_at hl 1 rfl) ?_
  refine z_calll0 (wc := [(p1, zaJ k 4 (u.1 0))]) (wr := [(hm, .inr (7, [.ref p0, .ref c0, .ref n0, .ref b0, .ref e0, .ref f0, .ref l1, .ref l2, .ref l3, .ref l4, .ref l5, .int (u.2.1 11 2), .int (msk (u.2.2.2 1)), .long (u.1 9 0)])), (p0, .inr (0, [.ref p1, .ref p2, .ref p3, .ref p4, .ref p5]))]) (va_runS (As := [.ref p1, .int a]) (rest := []) ⟨hx, hb, hml, hown, hts⟩ (c_X5_at l D k s.heap.size p1 4 (u.1 0) a (by decide)) (va_cwS 2 hts gX8_truth_X5_at rfl rfl rfl (by decide +kernel) ⟨Nat.le_of_ble_eq_true rfl, Nat.le_of_ble_eq_true rfl⟩) (z_preS (wc := [(p1, zaJ k 4 (u.1 0))]) hP hD hK [2] rfl rfl zb0 zp0) rfl rfl hl.1 rfl (lv_room (Nat.le_of_ble_eq_true rfl)) dX8_truth_8 ⟨Nat.zero_le _, Nat.zero_le _⟩) hP hD hS hA [2] [0, 1] rfl rfl rfl (by decide) (fun w H locs hF hP hD hS => ?_)
  subst hF
  have hP : va_P D vwCl [(hm, .inr (7, [.ref p0, .ref c0, .ref n0, .ref b0, .ref e0, .ref f0, .ref l1, .ref l2, .ref l3, .ref l4, .ref l5, .int (u.2.1 11 2), .int (msk (u.2.2.2 1)), .long (u.1 9 0)])), (p0, .inr (0, [.ref p1, .ref p2, .ref p3, .ref p4, .ref p5])), (p1, zaJ k 4 (u.1 0))] H := hP
  have hD : va_D A [(hm, .inr (7, [.ref p0, .ref c0, .ref n0, .ref b0, .ref e0, .ref f0, .ref l1, .ref l2, .ref l3, .ref l4, .ref l5, .int (u.2.1 11 2), .int (msk (u.2.2.2 1)), .long (u.1 9 0)])), (p0, .inr (0, [.ref p1, .ref p2, .ref p3, .ref p4, .ref p5])), (p1, zaJ k 4 (u.1 0))] := hD
  have hP9 := hP.sub (ws' := [(hm, .inr (7, [.ref p0, .ref c0, .ref n0, .ref b0, .ref e0, .ref f0, .ref l1, .ref l2, .ref l3, .ref l4, .ref l5, .int (u.2.1 11 2), .int (msk (u.2.2.2 1)), .long (u.1 9 0)])), (p0, .inr (0, [.ref p1, .ref p2, .ref p3, .ref p4, .ref p5])), (p1, zaJ k 4 (u.1 0))]) [0, 1, 2] rfl
  have hD9 := hD.sub (ws' := [(hm, .inr (7, [.ref p0, .ref c0, .ref n0, .ref b0, .ref e0, .ref f0, .ref l1, .ref l2, .ref l3, .ref l4, .ref l5, .int (u.2.1 11 2), .int (msk (u.2.2.2 1)), .long (u.1 9 0)])), (p0, .inr (0, [.ref p1, .ref p2, .ref p3, .ref p4, .ref p5])), (p1, zaJ k 4 (u.1 0))]) [0, 1, 2] (by decide) rfl
  exact W.lret (v := if zin a 0 ((4 : Int) - 1) then (u.1 0) a.toNatClampNeg else 0) hx hb hr (fun t9 ht9 hW9 => ⟨⟨(if zin a 0 ((4 : Int) - 1) then (u.1 0) a.toNatClampNeg else 0), [(hm, .inr (7, [.ref p0, .ref c0, .ref n0, .ref b0, .ref e0, .ref f0, .ref l1, .ref l2, .ref l3, .ref l4, .ref l5, .int (u.2.1 11 2), .int (msk (u.2.2.2 1)), .long (u.1 9 0)])), (p0, .inr (0, [.ref p1, .ref p2, .ref p3, .ref p4, .ref p5])), (p1, zaJ k 4 (u.1 0))], rfl, ⟨by rfl, rfl⟩, by rw [ht9]; exact hP9, hD9⟩, hS.F ht9⟩) hS.2.2 dX8_truth_11
set_option maxHeartbeats 4000000 in
set_option maxRecDepth 100000 in
theorem c_X8_setMethod_ok (l : Launch) (D : va_G) (k : Nat → ClassId) (sz : Nat) (hm p0 c0 n0 b0 e0 e1 e2 e3 e4 e5 e6 e7 g0 q0 f0 l1 l2 l3 l4 l5 : Nat) (u : zS) (a : Int32) (h0 : zin a 0 2 = true) : Met l yX8_setMethod wsX8_setMethod ({ frames := 1, cells := 0, slots := 0, locals := 22 } : Room) (va_Pc [.ref hm, .int a] (zPre D k [(hm, .inr (7, [.ref p0, .ref c0, .ref n0, .ref b0, .ref e0, .ref f0, .ref l1, .ref l2, .ref l3, .ref l4, .ref l5, .int (u.2.1 11 2), .int (msk (u.2.2.2 1)), .long (u.1 9 0)])), (e0, .inr (4, [.ref g0, .ref q0, .ref e1, .ref e2, .ref e3, .ref e4, .ref e5, .ref e6, .ref e7, .int (u.2.1 11 3), .int (u.2.1 11 4), .int (u.2.1 11 5)]))] sz zX0)) (zQi D [(hm, .inr (7, [.ref p0, .ref c0, .ref n0, .ref b0, .ref e0, .ref f0, .ref l1, .ref l2, .ref l3, .ref l4, .ref l5, .int (u.2.1 11 2), .int (msk (u.2.2.2 1)), .long (u.1 9 0)])), (e0, .inr (4, [.ref g0, .ref q0, .ref e1, .ref e2, .ref e3, .ref e4, .ref e5, .ref e6, .ref e7, .int (u.2.1 11 3), .int (u.2.1 11 4), .int (u.2.1 11 5)]))] sz (u.2.1 11 3) (fun w : va_W => w = [(hm, .inr (7, [.ref p0, .ref c0, .ref n0, .ref b0, .ref e0, .ref f0, .ref l1, .ref l2, .ref l3, .ref l4, .ref l5, .int (u.2.1 11 2), .int (msk (u.2.2.2 1)), .long (u.1 9 0)])), (e0, .inr (4, [.ref g0, .ref q0, .ref e1, .ref e2, .ref e3, .ref e4, .ref e5, .ref e6, .ref e7, .int a, .int (u.2.1 11 4), .int (u.2.1 11 5)]))])) 0 0 (va_A [(hm, .inr (7, [.ref p0, .ref c0, .ref n0, .ref b0, .ref e0, .ref f0, .ref l1, .ref l2, .ref l3, .ref l4, .ref l5, .int (u.2.1 11 2), .int (msk (u.2.2.2 1)), .long (u.1 9 0)])), (e0, .inr (4, [.ref g0, .ref q0, .ref e1, .ref e2, .ref e3, .ref e4, .ref e5, .ref e6, .ref e7, .int (u.2.1 11 3), .int (u.2.1 11 4), .int (u.2.1 11 5)]))] sz) := by
  refine Met.ofW (cc := cX8_setMethod) (maxL := 2) (ret := (some .int)) (by decide) rfl ?_
  intro p e s m args below meth c s₁ B hml hv
  obtain ⟨rfl, hsz, hP, hK, hD0, hE⟩ := hv
  have hx := B.exec
  have hb := B.bytes
  have hr := B.returns
  have hts := atoms_spec (ws := wsX8_setMethod) B.pre
  have hown : s.vm.findClass RX8 = some m.cls := findClass_of_methodNamed B.named
  have hlocks := B.notSynchronized
  subst hsz
  have hD := hD0.self (sz := s.heap.size)
  delta zQi zB
  generalize hAe : va_A [(hm, .inr (7, [.ref p0, .ref c0, .ref n0, .ref b0, .ref e0, .ref f0, .ref l1, .ref l2, .ref l3, .ref l4, .ref l5, .int (u.2.1 11 2), .int (msk (u.2.2.2 1)), .long (u.1 9 0)])), (e0, .inr (4, [.ref g0, .ref q0, .ref e1, .ref e2, .ref e3, .ref e4, .ref e5, .ref e6, .ref e7, .int (u.2.1 11 3), .int (u.2.1 11 4), .int (u.2.1 11 5)]))] s.heap.size = A at hD hE ⊢
  have hA : ∀ q : Nat, s.heap.size ≤ q → A q := fun q h => by rw [← hAe]; exact Or.inr h
  have hS : va_S A s.heap s.heap [] := va_S.rf
  have hl := lv_entry [.ref hm, .int a] (n := 2) (Nat.le_of_ble_eq_true rfl)
  rw [lg_entry_eq]
  generalize (lg_sl [.ref hm, .int a] ++ List.replicate (2 - (lg_sl [.ref hm, .int a]).length) Slot.unset).toArray = ls at hl ⊢
  have hl : lv_has ls 2 [(0, .ref hm), (1, .int a)] := hl
  have hl40 : (Cond.fieldLink RX8 40 "InertialReference" "estimator" "LInertialReference$Estimator;").before #[Value.ref hm, Value.int a] s = true := zw hts 1 rfl
  have hinX8 : ∀ w ∈ u_ws RX8 TX8 14, w ∈ wsX8_setMethod := fun w h => List.mem_cons_of_mem _ (List.mem_append_left _ (List.mem_append_right _ h))
  refine lv_iload_n hx hb dX8_setMethod_0 rfl (lv_at hl 1 rfl) ?_
  refine lv_iconst (v := 0) hx hb dX8_setMethod_1 (by decide) ?_
  refine lv_iconst (v := 2) hx hb dX8_setMethod_2 (by decide) ?_
  refine z_calli0 (wc := []) (wr := [(hm, .inr (7, [.ref p0, .ref c0, .ref n0, .ref b0, .ref e0, .ref f0, .ref l1, .ref l2, .ref l3, .ref l4, .ref l5, .int (u.2.1 11 2), .int (msk (u.2.2.2 1)), .long (u.1 9 0)])), (e0, .inr (4, [.ref g0, .ref q0, .ref e1, .ref e2, .ref e3, .ref e4, .ref e5, .ref e6, .ref e7, .int (u.2.1 11 3), .int (u.2.1 11 4), .int (u.2.1 11 5)]))]) (va_runS (As := [.int a, .int 0, .int 2]) (rest := []) ⟨hx, hb, hml, hown, hts⟩ (c_X5_isBetween l D k s.heap.size a 0 2) (va_cwS 3 hts gX8_setMethod_X5_isBetween rfl rfl rfl (by decide +kernel) ⟨Nat.le_of_ble_eq_true rfl, Nat.le_of_ble_eq_true rfl⟩) (z_preS (wc := []) hP hD hK [] rfl rfl zb0 zp0) rfl rfl hl.1 rfl (lv_room (Nat.le_of_ble_eq_true rfl)) dX8_setMethod_3 ⟨Nat.zero_le _, Nat.zero_le _⟩) hP hD hS hA [] [0, 1] rfl rfl rfl (by decide) (fun w H locs hF hP hD hS => ?_)
  subst hF
  have hP : va_P D vwCl [(hm, .inr (7, [.ref p0, .ref c0, .ref n0, .ref b0, .ref e0, .ref f0, .ref l1, .ref l2, .ref l3, .ref l4, .ref l5, .int (u.2.1 11 2), .int (msk (u.2.2.2 1)), .long (u.1 9 0)])), (e0, .inr (4, [.ref g0, .ref q0, .ref e1, .ref e2, .ref e3, .ref e4, .ref e5, .ref e6, .ref e7, .int (u.2.1 11 3), .int (u.2.1 11 4), .int (u.2.1 11 5)]))] H := hP
  have hD : va_D A [(hm, .inr (7, [.ref p0, .ref c0, .ref n0, .ref b0, .ref e0, .ref f0, .ref l1, .ref l2, .ref l3, .ref l4, .ref l5, .int (u.2.1 11 2), .int (msk (u.2.2.2 1)), .long (u.1 9 0)])), (e0, .inr (4, [.ref g0, .ref q0, .ref e1, .ref e2, .ref e3, .ref e4, .ref e5, .ref e6, .ref e7, .int (u.2.1 11 3), .int (u.2.1 11 4), .int (u.2.1 11 5)]))] := hD
  refine W.eq (g2 := F0 m 6 ls (.int (zb (zin a 0 2)) :: [])) (by rw [zIi a 0 2 (A := 0) (B := 2) (by decide) (by decide)]) ?_
  refine lv_if_ne (tgt := 12) hx hb dX8_setMethod_6 (by decide) (fun c_1 => ?_) (fun c_1 => ?_)
  · skip
    have c_1 := zb_n c_1
    refine lv_aload_n hx hb dX8_setMethod_12 rfl (lv_at hl 0 rfl) ?_
    refine va_get (D := D) (ci := 7) (v := .ref e0) (C := RX8) (T := TX8) (N := 14) hx hb hts hinX8 hown hK hP 0 rfl rfl 4 (Nat.le_of_ble_eq_true rfl) hl40 (fun _ h9 => h9) rfl dX8_setMethod_13 ?_
    refine lv_iload_n hx hb dX8_setMethod_16 rfl (lv_at hl 1 rfl) ?_
    refine z_calli0 (wc := [(e0, .inr (4, [.ref g0, .ref q0, .ref e1, .ref e2, .ref e3, .ref e4, .ref e5, .ref e6, .ref e7, .int (u.2.1 11 3), .int (u.2.1 11 4), .int (u.2.1 11 5)]))]) (wr := [(hm, .inr (7, [.ref p0, .ref c0, .ref n0, .ref b0, .ref e0, .ref f0, .ref l1, .ref l2, .ref l3, .ref l4, .ref l5, .int (u.2.1 11 2), .int (msk (u.2.2.2 1)), .long (u.1 9 0)]))]) (va_runV (As := [.int a]) (rest := []) ⟨hx, hb, hml, hown, hts⟩ (c_X4_changeMethod l D k H.size e0 q0 e1 e2 e3 e4 e5 e6 e7 g0 0 0 0 0 0 0 0 0 (u.2.1 11 3) (u.2.1 11 4) (u.2.1 11 5) a) (cwV 1 hts gX8_setMethod_X4_changeMethod rfl rfl rfl (by decide +kernel) ⟨Nat.le_of_ble_eq_true rfl, Nat.le_of_ble_eq_true rfl⟩) (z_preV (wc := [(e0, .inr (4, [.ref g0, .ref q0, .ref e1, .ref e2, .ref e3, .ref e4, .ref e5, .ref e6, .ref e7, .int (u.2.1 11 3), .int (u.2.1 11 4), .int (u.2.1 11 5)]))]) 1 4 hP hD hK [1] rfl rfl rfl rfl zb0 zp0) rfl rfl hl.1 rfl (lv_room (Nat.le_of_ble_eq_true rfl)) dX8_setMethod_17 ⟨Nat.zero_le _, Nat.zero_le _⟩) hP hD hS hA [1] [0] rfl rfl rfl (by decide) (fun w H locs hF hP hD hS => ?_)
    subst hF
    have hP : va_P D vwCl [(hm, .inr (7, [.ref p0, .ref c0, .ref n0, .ref b0, .ref e0, .ref f0, .ref l1, .ref l2, .ref l3, .ref l4, .ref l5, .int (u.2.1 11 2), .int (msk (u.2.2.2 1)), .long (u.1 9 0)])), (e0, .inr (4, [.ref g0, .ref q0, .ref e1, .ref e2, .ref e3, .ref e4, .ref e5, .ref e6, .ref e7, .int a, .int (u.2.1 11 4), .int (u.2.1 11 5)]))] H := hP
    have hD : va_D A [(hm, .inr (7, [.ref p0, .ref c0, .ref n0, .ref b0, .ref e0, .ref f0, .ref l1, .ref l2, .ref l3, .ref l4, .ref l5, .int (u.2.1 11 2), .int (msk (u.2.2.2 1)), .long (u.1 9 0)])), (e0, .inr (4, [.ref g0, .ref q0, .ref e1, .ref e2, .ref e3, .ref e4, .ref e5, .ref e6, .ref e7, .int a, .int (u.2.1 11 4), .int (u.2.1 11 5)]))] := hD
    have hP9 := hP.sub (ws' := [(hm, .inr (7, [.ref p0, .ref c0, .ref n0, .ref b0, .ref e0, .ref f0, .ref l1, .ref l2, .ref l3, .ref l4, .ref l5, .int (u.2.1 11 2), .int (msk (u.2.2.2 1)), .long (u.1 9 0)])), (e0, .inr (4, [.ref g0, .ref q0, .ref e1, .ref e2, .ref e3, .ref e4, .ref e5, .ref e6, .ref e7, .int a, .int (u.2.1 11 4), .int (u.2.1 11 5)]))]) [0, 1] rfl
    have hD9 := hD.sub (ws' := [(hm, .inr (7, [.ref p0, .ref c0, .ref n0, .ref b0, .ref e0, .ref f0, .ref l1, .ref l2, .ref l3, .ref l4, .ref l5, .int (u.2.1 11 2), .int (msk (u.2.2.2 1)), .long (u.1 9 0)])), (e0, .inr (4, [.ref g0, .ref q0, .ref e1, .ref e2, .ref e3, .ref e4, .ref e5, .ref e6, .ref e7, .int a, .int (u.2.1 11 4), .int (u.2.1 11 5)]))]) [0, 1] (by decide) rfl
    exact W.iret (v := (u.2.1 11 3)) hx hb hr (fun t9 ht9 hW9 => ⟨⟨(u.2.1 11 3), [(hm, .inr (7, [.ref p0, .ref c0, .ref n0, .ref b0, .ref e0, .ref f0, .ref l1, .ref l2, .ref l3, .ref l4, .ref l5, .int (u.2.1 11 2), .int (msk (u.2.2.2 1)), .long (u.1 9 0)])), (e0, .inr (4, [.ref g0, .ref q0, .ref e1, .ref e2, .ref e3, .ref e4, .ref e5, .ref e6, .ref e7, .int a, .int (u.2.1 11 4), .int (u.2.1 11 5)]))], rfl, ⟨rfl, rfl⟩, by rw [ht9]; exact hP9, hD9⟩, hS.F ht9⟩) hS.2.2 dX8_setMethod_20
  · skip
    have c_1 := zb_e c_1
    first | exact absurd (c_1.symm.trans h0) (by decide)
set_option maxHeartbeats 4000000 in
set_option maxRecDepth 100000 in
theorem c_X8_setMethod_no (l : Launch) (D : va_G) (k : Nat → ClassId) (sz : Nat) (hm p0 c0 n0 b0 e0 f0 l1 l2 l3 l4 l5 : Nat) (u : zS) (a : Int32) (hno : zin a 0 2 = false) : Met l yX8_setMethod wsX8_setMethod ({ frames := 1, cells := 0, slots := 0, locals := 22 } : Room) (va_Pc [.ref hm, .int a] (zPre D k [(hm, .inr (7, [.ref p0, .ref c0, .ref n0, .ref b0, .ref e0, .ref f0, .ref l1, .ref l2, .ref l3, .ref l4, .ref l5, .int (u.2.1 11 2), .int (msk (u.2.2.2 1)), .long (u.1 9 0)]))] sz zX0)) (zQi D [(hm, .inr (7, [.ref p0, .ref c0, .ref n0, .ref b0, .ref e0, .ref f0, .ref l1, .ref l2, .ref l3, .ref l4, .ref l5, .int (u.2.1 11 2), .int (msk (u.2.2.2 1)), .long (u.1 9 0)]))] sz (-2) (fun w : va_W => w = [(hm, .inr (7, [.ref p0, .ref c0, .ref n0, .ref b0, .ref e0, .ref f0, .ref l1, .ref l2, .ref l3, .ref l4, .ref l5, .int (u.2.1 11 2), .int (msk (u.2.2.2 1)), .long (u.1 9 0)]))])) 0 0 (va_A [(hm, .inr (7, [.ref p0, .ref c0, .ref n0, .ref b0, .ref e0, .ref f0, .ref l1, .ref l2, .ref l3, .ref l4, .ref l5, .int (u.2.1 11 2), .int (msk (u.2.2.2 1)), .long (u.1 9 0)]))] sz) := by
  refine Met.ofW (cc := cX8_setMethod) (maxL := 2) (ret := (some .int)) (by decide) rfl ?_
  intro p e s m args below meth c s₁ B hml hv
  obtain ⟨rfl, hsz, hP, hK, hD0, hE⟩ := hv
  have hx := B.exec
  have hb := B.bytes
  have hr := B.returns
  have hts := atoms_spec (ws := wsX8_setMethod) B.pre
  have hown : s.vm.findClass RX8 = some m.cls := findClass_of_methodNamed B.named
  have hlocks := B.notSynchronized
  subst hsz
  have hD := hD0.self (sz := s.heap.size)
  delta zQi zB
  generalize hAe : va_A [(hm, .inr (7, [.ref p0, .ref c0, .ref n0, .ref b0, .ref e0, .ref f0, .ref l1, .ref l2, .ref l3, .ref l4, .ref l5, .int (u.2.1 11 2), .int (msk (u.2.2.2 1)), .long (u.1 9 0)]))] s.heap.size = A at hD hE ⊢
  have hA : ∀ q : Nat, s.heap.size ≤ q → A q := fun q h => by rw [← hAe]; exact Or.inr h
  have hS : va_S A s.heap s.heap [] := va_S.rf
  have hl := lv_entry [.ref hm, .int a] (n := 2) (Nat.le_of_ble_eq_true rfl)
  rw [lg_entry_eq]
  generalize (lg_sl [.ref hm, .int a] ++ List.replicate (2 - (lg_sl [.ref hm, .int a]).length) Slot.unset).toArray = ls at hl ⊢
  have hl : lv_has ls 2 [(0, .ref hm), (1, .int a)] := hl
  refine lv_iload_n hx hb dX8_setMethod_0 rfl (lv_at hl 1 rfl) ?_
  refine lv_iconst (v := 0) hx hb dX8_setMethod_1 (by decide) ?_
  refine lv_iconst (v := 2) hx hb dX8_setMethod_2 (by decide) ?_
  refine z_calli0 (wc := []) (wr := [(hm, .inr (7, [.ref p0, .ref c0, .ref n0, .ref b0, .ref e0, .ref f0, .ref l1, .ref l2, .ref l3, .ref l4, .ref l5, .int (u.2.1 11 2), .int (msk (u.2.2.2 1)), .long (u.1 9 0)]))]) (va_runS (As := [.int a, .int 0, .int 2]) (rest := []) ⟨hx, hb, hml, hown, hts⟩ (c_X5_isBetween l D k s.heap.size a 0 2) (va_cwS 3 hts gX8_setMethod_X5_isBetween rfl rfl rfl (by decide +kernel) ⟨Nat.le_of_ble_eq_true rfl, Nat.le_of_ble_eq_true rfl⟩) (z_preS (wc := []) hP hD hK [] rfl rfl zb0 zp0) rfl rfl hl.1 rfl (lv_room (Nat.le_of_ble_eq_true rfl)) dX8_setMethod_3 ⟨Nat.zero_le _, Nat.zero_le _⟩) hP hD hS hA [] [0] rfl rfl rfl (by decide) (fun w H locs hF hP hD hS => ?_)
  subst hF
  have hP : va_P D vwCl [(hm, .inr (7, [.ref p0, .ref c0, .ref n0, .ref b0, .ref e0, .ref f0, .ref l1, .ref l2, .ref l3, .ref l4, .ref l5, .int (u.2.1 11 2), .int (msk (u.2.2.2 1)), .long (u.1 9 0)]))] H := hP
  have hD : va_D A [(hm, .inr (7, [.ref p0, .ref c0, .ref n0, .ref b0, .ref e0, .ref f0, .ref l1, .ref l2, .ref l3, .ref l4, .ref l5, .int (u.2.1 11 2), .int (msk (u.2.2.2 1)), .long (u.1 9 0)]))] := hD
  refine W.eq (g2 := F0 m 6 ls (.int (zb (zin a 0 2)) :: [])) (by rw [zIi a 0 2 (A := 0) (B := 2) (by decide) (by decide)]) ?_
  refine lv_if_ne (tgt := 12) hx hb dX8_setMethod_6 (by decide) (fun c_1 => ?_) (fun c_1 => ?_)
  · skip
    have c_1 := zb_n c_1
    rw [c_1] at hno; exact absurd hno (by decide)
  · skip
    have c_1 := zb_e c_1
    refine lv_bipush (v := (-2)) hx hb dX8_setMethod_9 (by decide) ?_
    have hP9 := hP.sub (ws' := [(hm, .inr (7, [.ref p0, .ref c0, .ref n0, .ref b0, .ref e0, .ref f0, .ref l1, .ref l2, .ref l3, .ref l4, .ref l5, .int (u.2.1 11 2), .int (msk (u.2.2.2 1)), .long (u.1 9 0)]))]) [0] rfl
    have hD9 := hD.sub (ws' := [(hm, .inr (7, [.ref p0, .ref c0, .ref n0, .ref b0, .ref e0, .ref f0, .ref l1, .ref l2, .ref l3, .ref l4, .ref l5, .int (u.2.1 11 2), .int (msk (u.2.2.2 1)), .long (u.1 9 0)]))]) [0] (by decide) rfl
    exact W.iret (v := (-2)) hx hb hr (fun t9 ht9 hW9 => ⟨⟨(-2), [(hm, .inr (7, [.ref p0, .ref c0, .ref n0, .ref b0, .ref e0, .ref f0, .ref l1, .ref l2, .ref l3, .ref l4, .ref l5, .int (u.2.1 11 2), .int (msk (u.2.2.2 1)), .long (u.1 9 0)]))], rfl, ⟨rfl, rfl⟩, by rw [ht9]; exact hP9, hD9⟩, hS.F ht9⟩) hS.2.2 dX8_setMethod_11
set_option maxHeartbeats 4000000 in
set_option maxRecDepth 100000 in
theorem c_X8_setLevelling_ok (l : Launch) (D : va_G) (k : Nat → ClassId) (sz : Nat) (hm p0 c0 n0 b0 e0 e1 e2 e3 e4 e5 e6 e7 g0 q0 f0 l1 l2 l3 l4 l5 : Nat) (u : zS) (a : Int32) (h0 : zin a 0 20 = true) : Met l yX8_setLevelling wsX8_setLevelling ({ frames := 1, cells := 0, slots := 0, locals := 22 } : Room) (va_Pc [.ref hm, .int a] (zPre D k [(hm, .inr (7, [.ref p0, .ref c0, .ref n0, .ref b0, .ref e0, .ref f0, .ref l1, .ref l2, .ref l3, .ref l4, .ref l5, .int (u.2.1 11 2), .int (msk (u.2.2.2 1)), .long (u.1 9 0)])), (e0, .inr (4, [.ref g0, .ref q0, .ref e1, .ref e2, .ref e3, .ref e4, .ref e5, .ref e6, .ref e7, .int (u.2.1 11 3), .int (u.2.1 11 4), .int (u.2.1 11 5)]))] sz zX0)) (zQi D [(hm, .inr (7, [.ref p0, .ref c0, .ref n0, .ref b0, .ref e0, .ref f0, .ref l1, .ref l2, .ref l3, .ref l4, .ref l5, .int (u.2.1 11 2), .int (msk (u.2.2.2 1)), .long (u.1 9 0)])), (e0, .inr (4, [.ref g0, .ref q0, .ref e1, .ref e2, .ref e3, .ref e4, .ref e5, .ref e6, .ref e7, .int (u.2.1 11 3), .int (u.2.1 11 4), .int (u.2.1 11 5)]))] sz (u.2.1 11 4) (fun w : va_W => w = [(hm, .inr (7, [.ref p0, .ref c0, .ref n0, .ref b0, .ref e0, .ref f0, .ref l1, .ref l2, .ref l3, .ref l4, .ref l5, .int (u.2.1 11 2), .int (msk (u.2.2.2 1)), .long (u.1 9 0)])), (e0, .inr (4, [.ref g0, .ref q0, .ref e1, .ref e2, .ref e3, .ref e4, .ref e5, .ref e6, .ref e7, .int (u.2.1 11 3), .int a, .int (u.2.1 11 5)]))])) 0 0 (va_A [(hm, .inr (7, [.ref p0, .ref c0, .ref n0, .ref b0, .ref e0, .ref f0, .ref l1, .ref l2, .ref l3, .ref l4, .ref l5, .int (u.2.1 11 2), .int (msk (u.2.2.2 1)), .long (u.1 9 0)])), (e0, .inr (4, [.ref g0, .ref q0, .ref e1, .ref e2, .ref e3, .ref e4, .ref e5, .ref e6, .ref e7, .int (u.2.1 11 3), .int (u.2.1 11 4), .int (u.2.1 11 5)]))] sz) := by
  refine Met.ofW (cc := cX8_setLevelling) (maxL := 2) (ret := (some .int)) (by decide) rfl ?_
  intro p e s m args below meth c s₁ B hml hv
  obtain ⟨rfl, hsz, hP, hK, hD0, hE⟩ := hv
  have hx := B.exec
  have hb := B.bytes
  have hr := B.returns
  have hts := atoms_spec (ws := wsX8_setLevelling) B.pre
  have hown : s.vm.findClass RX8 = some m.cls := findClass_of_methodNamed B.named
  have hlocks := B.notSynchronized
  subst hsz
  have hD := hD0.self (sz := s.heap.size)
  delta zQi zB
  generalize hAe : va_A [(hm, .inr (7, [.ref p0, .ref c0, .ref n0, .ref b0, .ref e0, .ref f0, .ref l1, .ref l2, .ref l3, .ref l4, .ref l5, .int (u.2.1 11 2), .int (msk (u.2.2.2 1)), .long (u.1 9 0)])), (e0, .inr (4, [.ref g0, .ref q0, .ref e1, .ref e2, .ref e3, .ref e4, .ref e5, .ref e6, .ref e7, .int (u.2.1 11 3), .int (u.2.1 11 4), .int (u.2.1 11 5)]))] s.heap.size = A at hD hE ⊢
  have hA : ∀ q : Nat, s.heap.size ≤ q → A q := fun q h => by rw [← hAe]; exact Or.inr h
  have hS : va_S A s.heap s.heap [] := va_S.rf
  have hl := lv_entry [.ref hm, .int a] (n := 2) (Nat.le_of_ble_eq_true rfl)
  rw [lg_entry_eq]
  generalize (lg_sl [.ref hm, .int a] ++ List.replicate (2 - (lg_sl [.ref hm, .int a]).length) Slot.unset).toArray = ls at hl ⊢
  have hl : lv_has ls 2 [(0, .ref hm), (1, .int a)] := hl
  have hl40 : (Cond.fieldLink RX8 40 "InertialReference" "estimator" "LInertialReference$Estimator;").before #[Value.ref hm, Value.int a] s = true := zw hts 1 rfl
  have hinX8 : ∀ w ∈ u_ws RX8 TX8 14, w ∈ wsX8_setLevelling := fun w h => List.mem_cons_of_mem _ (List.mem_append_left _ (List.mem_append_right _ h))
  refine lv_iload_n hx hb dX8_setLevelling_0 rfl (lv_at hl 1 rfl) ?_
  refine lv_iconst (v := 0) hx hb dX8_setLevelling_1 (by decide) ?_
  refine lv_bipush (v := 20) hx hb dX8_setLevelling_2 (by decide) ?_
  refine z_calli0 (wc := []) (wr := [(hm, .inr (7, [.ref p0, .ref c0, .ref n0, .ref b0, .ref e0, .ref f0, .ref l1, .ref l2, .ref l3, .ref l4, .ref l5, .int (u.2.1 11 2), .int (msk (u.2.2.2 1)), .long (u.1 9 0)])), (e0, .inr (4, [.ref g0, .ref q0, .ref e1, .ref e2, .ref e3, .ref e4, .ref e5, .ref e6, .ref e7, .int (u.2.1 11 3), .int (u.2.1 11 4), .int (u.2.1 11 5)]))]) (va_runS (As := [.int a, .int 0, .int 20]) (rest := []) ⟨hx, hb, hml, hown, hts⟩ (c_X5_isBetween l D k s.heap.size a 0 20) (va_cwS 3 hts gX8_setLevelling_X5_isBetween rfl rfl rfl (by decide +kernel) ⟨Nat.le_of_ble_eq_true rfl, Nat.le_of_ble_eq_true rfl⟩) (z_preS (wc := []) hP hD hK [] rfl rfl zb0 zp0) rfl rfl hl.1 rfl (lv_room (Nat.le_of_ble_eq_true rfl)) dX8_setLevelling_4 ⟨Nat.zero_le _, Nat.zero_le _⟩) hP hD hS hA [] [0, 1] rfl rfl rfl (by decide) (fun w H locs hF hP hD hS => ?_)
  subst hF
  have hP : va_P D vwCl [(hm, .inr (7, [.ref p0, .ref c0, .ref n0, .ref b0, .ref e0, .ref f0, .ref l1, .ref l2, .ref l3, .ref l4, .ref l5, .int (u.2.1 11 2), .int (msk (u.2.2.2 1)), .long (u.1 9 0)])), (e0, .inr (4, [.ref g0, .ref q0, .ref e1, .ref e2, .ref e3, .ref e4, .ref e5, .ref e6, .ref e7, .int (u.2.1 11 3), .int (u.2.1 11 4), .int (u.2.1 11 5)]))] H := hP
  have hD : va_D A [(hm, .inr (7, [.ref p0, .ref c0, .ref n0, .ref b0, .ref e0, .ref f0, .ref l1, .ref l2, .ref l3, .ref l4, .ref l5, .int (u.2.1 11 2), .int (msk (u.2.2.2 1)), .long (u.1 9 0)])), (e0, .inr (4, [.ref g0, .ref q0, .ref e1, .ref e2, .ref e3, .ref e4, .ref e5, .ref e6, .ref e7, .int (u.2.1 11 3), .int (u.2.1 11 4), .int (u.2.1 11 5)]))] := hD
  refine W.eq (g2 := F0 m 7 ls (.int (zb (zin a 0 20)) :: [])) (by rw [zIi a 0 20 (A := 0) (B := 20) (by decide) (by decide)]) ?_
  refine lv_if_ne (tgt := 13) hx hb dX8_setLevelling_7 (by decide) (fun c_1 => ?_) (fun c_1 => ?_)
  · skip
    have c_1 := zb_n c_1
    refine lv_aload_n hx hb dX8_setLevelling_13 rfl (lv_at hl 0 rfl) ?_
    refine va_get (D := D) (ci := 7) (v := .ref e0) (C := RX8) (T := TX8) (N := 14) hx hb hts hinX8 hown hK hP 0 rfl rfl 4 (Nat.le_of_ble_eq_true rfl) hl40 (fun _ h9 => h9) rfl dX8_setLevelling_14 ?_
    refine lv_iload_n hx hb dX8_setLevelling_17 rfl (lv_at hl 1 rfl) ?_
    refine z_calli0 (wc := [(e0, .inr (4, [.ref g0, .ref q0, .ref e1, .ref e2, .ref e3, .ref e4, .ref e5, .ref e6, .ref e7, .int (u.2.1 11 3), .int (u.2.1 11 4), .int (u.2.1 11 5)]))]) (wr := [(hm, .inr (7, [.ref p0, .ref c0, .ref n0, .ref b0, .ref e0, .ref f0, .ref l1, .ref l2, .ref l3, .ref l4, .ref l5, .int (u.2.1 11 2), .int (msk (u.2.2.2 1)), .long (u.1 9 0)]))]) (va_runV (As := [.int a]) (rest := []) ⟨hx, hb, hml, hown, hts⟩ (c_X4_changeLevelling l D k H.size e0 q0 e1 e2 e3 e4 e5 e6 e7 g0 0 0 0 0 0 0 0 0 (u.2.1 11 3) (u.2.1 11 4) (u.2.1 11 5) a) (cwV 1 hts gX8_setLevelling_X4_changeLevelling rfl rfl rfl (by decide +kernel) ⟨Nat.le_of_ble_eq_true rfl, Nat.le_of_ble_eq_true rfl⟩) (z_preV (wc := [(e0, .inr (4, [.ref g0, .ref q0, .ref e1, .ref e2, .ref e3, .ref e4, .ref e5, .ref e6, .ref e7, .int (u.2.1 11 3), .int (u.2.1 11 4), .int (u.2.1 11 5)]))]) 1 4 hP hD hK [1] rfl rfl rfl rfl zb0 zp0) rfl rfl hl.1 rfl (lv_room (Nat.le_of_ble_eq_true rfl)) dX8_setLevelling_18 ⟨Nat.zero_le _, Nat.zero_le _⟩) hP hD hS hA [1] [0] rfl rfl rfl (by decide) (fun w H locs hF hP hD hS => ?_)
    subst hF
    have hP : va_P D vwCl [(hm, .inr (7, [.ref p0, .ref c0, .ref n0, .ref b0, .ref e0, .ref f0, .ref l1, .ref l2, .ref l3, .ref l4, .ref l5, .int (u.2.1 11 2), .int (msk (u.2.2.2 1)), .long (u.1 9 0)])), (e0, .inr (4, [.ref g0, .ref q0, .ref e1, .ref e2, .ref e3, .ref e4, .ref e5, .ref e6, .ref e7, .int (u.2.1 11 3), .int a, .int (u.2.1 11 5)]))] H := hP
    have hD : va_D A [(hm, .inr (7, [.ref p0, .ref c0, .ref n0, .ref b0, .ref e0, .ref f0, .ref l1, .ref l2, .ref l3, .ref l4, .ref l5, .int (u.2.1 11 2), .int (msk (u.2.2.2 1)), .long (u.1 9 0)])), (e0, .inr (4, [.ref g0, .ref q0, .ref e1, .ref e2, .ref e3, .ref e4, .ref e5, .ref e6, .ref e7, .int (u.2.1 11 3), .int a, .int (u.2.1 11 5)]))] := hD
    have hP9 := hP.sub (ws' := [(hm, .inr (7, [.ref p0, .ref c0, .ref n0, .ref b0, .ref e0, .ref f0, .ref l1, .ref l2, .ref l3, .ref l4, .ref l5, .int (u.2.1 11 2), .int (msk (u.2.2.2 1)), .long (u.1 9 0)])), (e0, .inr (4, [.ref g0, .ref q0, .ref e1, .ref e2, .ref e3, .ref e4, .ref e5, .ref e6, .ref e7, .int (u.2.1 11 3), .int a, .int (u.2.1 11 5)]))]) [0, 1] rfl
    have hD9 := hD.sub (ws' := [(hm, .inr (7, [.ref p0, .ref c0, .ref n0, .ref b0, .ref e0, .ref f0, .ref l1, .ref l2, .ref l3, .ref l4, .ref l5, .int (u.2.1 11 2), .int (msk (u.2.2.2 1)), .long (u.1 9 0)])), (e0, .inr (4, [.ref g0, .ref q0, .ref e1, .ref e2, .ref e3, .ref e4, .ref e5, .ref e6, .ref e7, .int (u.2.1 11 3), .int a, .int (u.2.1 11 5)]))]) [0, 1] (by decide) rfl
    exact W.iret (v := (u.2.1 11 4)) hx hb hr (fun t9 ht9 hW9 => ⟨⟨(u.2.1 11 4), [(hm, .inr (7, [.ref p0, .ref c0, .ref n0, .ref b0, .ref e0, .ref f0, .ref l1, .ref l2, .ref l3, .ref l4, .ref l5, .int (u.2.1 11 2), .int (msk (u.2.2.2 1)), .long (u.1 9 0)])), (e0, .inr (4, [.ref g0, .ref q0, .ref e1, .ref e2, .ref e3, .ref e4, .ref e5, .ref e6, .ref e7, .int (u.2.1 11 3), .int a, .int (u.2.1 11 5)]))], rfl, ⟨rfl, rfl⟩, by rw [ht9]; exact hP9, hD9⟩, hS.F ht9⟩) hS.2.2 dX8_setLevelling_21
  · skip
    have c_1 := zb_e c_1
    first | exact absurd (c_1.symm.trans h0) (by decide)
set_option maxHeartbeats 4000000 in
set_option maxRecDepth 100000 in
theorem c_X8_setLevelling_no (l : Launch) (D : va_G) (k : Nat → ClassId) (sz : Nat) (hm p0 c0 n0 b0 e0 f0 l1 l2 l3 l4 l5 : Nat) (u : zS) (a : Int32) (hno : zin a 0 20 = false) : Met l yX8_setLevelling wsX8_setLevelling ({ frames := 1, cells := 0, slots := 0, locals := 22 } : Room) (va_Pc [.ref hm, .int a] (zPre D k [(hm, .inr (7, [.ref p0, .ref c0, .ref n0, .ref b0, .ref e0, .ref f0, .ref l1, .ref l2, .ref l3, .ref l4, .ref l5, .int (u.2.1 11 2), .int (msk (u.2.2.2 1)), .long (u.1 9 0)]))] sz zX0)) (zQi D [(hm, .inr (7, [.ref p0, .ref c0, .ref n0, .ref b0, .ref e0, .ref f0, .ref l1, .ref l2, .ref l3, .ref l4, .ref l5, .int (u.2.1 11 2), .int (msk (u.2.2.2 1)), .long (u.1 9 0)]))] sz (-2) (fun w : va_W => w = [(hm, .inr (7, [.ref p0, .ref c0, .ref n0, .ref b0, .ref e0, .ref f0, .ref l1, .ref l2, .ref l3, .ref l4, .ref l5, .int (u.2.1 11 2), .int (msk (u.2.2.2 1)), .long (u.1 9 0)]))])) 0 0 (va_A [(hm, .inr (7, [.ref p0, .ref c0, .ref n0, .ref b0, .ref e0, .ref f0, .ref l1, .ref l2, .ref l3, .ref l4, .ref l5, .int (u.2.1 11 2), .int (msk (u.2.2.2 1)), .long (u.1 9 0)]))] sz) := by
  refine Met.ofW (cc := cX8_setLevelling) (maxL := 2) (ret := (some .int)) (by decide) rfl ?_
  intro p e s m args below meth c s₁ B hml hv
  obtain ⟨rfl, hsz, hP, hK, hD0, hE⟩ := hv
  have hx := B.exec
  have hb := B.bytes
  have hr := B.returns
  have hts := atoms_spec (ws := wsX8_setLevelling) B.pre
  have hown : s.vm.findClass RX8 = some m.cls := findClass_of_methodNamed B.named
  have hlocks := B.notSynchronized
  subst hsz
  have hD := hD0.self (sz := s.heap.size)
  delta zQi zB
  generalize hAe : va_A [(hm, .inr (7, [.ref p0, .ref c0, .ref n0, .ref b0, .ref e0, .ref f0, .ref l1, .ref l2, .ref l3, .ref l4, .ref l5, .int (u.2.1 11 2), .int (msk (u.2.2.2 1)), .long (u.1 9 0)]))] s.heap.size = A at hD hE ⊢
  have hA : ∀ q : Nat, s.heap.size ≤ q → A q := fun q h => by rw [← hAe]; exact Or.inr h
  have hS : va_S A s.heap s.heap [] := va_S.rf
  have hl := lv_entry [.ref hm, .int a] (n := 2) (Nat.le_of_ble_eq_true rfl)
  rw [lg_entry_eq]
  generalize (lg_sl [.ref hm, .int a] ++ List.replicate (2 - (lg_sl [.ref hm, .int a]).length) Slot.unset).toArray = ls at hl ⊢
  have hl : lv_has ls 2 [(0, .ref hm), (1, .int a)] := hl
  refine lv_iload_n hx hb dX8_setLevelling_0 rfl (lv_at hl 1 rfl) ?_
  refine lv_iconst (v := 0) hx hb dX8_setLevelling_1 (by decide) ?_
  refine lv_bipush (v := 20) hx hb dX8_setLevelling_2 (by decide) ?_
  refine z_calli0 (wc := []) (wr := [(hm, .inr (7, [.ref p0, .ref c0, .ref n0, .ref b0, .ref e0, .ref f0, .ref l1, .ref l2, .ref l3, .ref l4, .ref l5, .int (u.2.1 11 2), .int (msk (u.2.2.2 1)), .long (u.1 9 0)]))]) (va_runS (As := [.int a, .int 0, .int 20]) (rest := []) ⟨hx, hb, hml, hown, hts⟩ (c_X5_isBetween l D k s.heap.size a 0 20) (va_cwS 3 hts gX8_setLevelling_X5_isBetween rfl rfl rfl (by decide +kernel) ⟨Nat.le_of_ble_eq_true rfl, Nat.le_of_ble_eq_true rfl⟩) (z_preS (wc := []) hP hD hK [] rfl rfl zb0 zp0) rfl rfl hl.1 rfl (lv_room (Nat.le_of_ble_eq_true rfl)) dX8_setLevelling_4 ⟨Nat.zero_le _, Nat.zero_le _⟩) hP hD hS hA [] [0] rfl rfl rfl (by decide) (fun w H locs hF hP hD hS => ?_)
  subst hF
  have hP : va_P D vwCl [(hm, .inr (7, [.ref p0, .ref c0, .ref n0, .ref b0, .ref e0, .ref f0, .ref l1, .ref l2, .ref l3, .ref l4, .ref l5, .int (u.2.1 11 2), .int (msk (u.2.2.2 1)), .long (u.1 9 0)]))] H := hP
  have hD : va_D A [(hm, .inr (7, [.ref p0, .ref c0, .ref n0, .ref b0, .ref e0, .ref f0, .ref l1, .ref l2, .ref l3, .ref l4, .ref l5, .int (u.2.1 11 2), .int (msk (u.2.2.2 1)), .long (u.1 9 0)]))] := hD
  refine W.eq (g2 := F0 m 7 ls (.int (zb (zin a 0 20)) :: [])) (by rw [zIi a 0 20 (A := 0) (B := 20) (by decide) (by decide)]) ?_
  refine lv_if_ne (tgt := 13) hx hb dX8_setLevelling_7 (by decide) (fun c_1 => ?_) (fun c_1 => ?_)
  · skip
    have c_1 := zb_n c_1
    rw [c_1] at hno; exact absurd hno (by decide)
  · skip
    have c_1 := zb_e c_1
    refine lv_bipush (v := (-2)) hx hb dX8_setLevelling_10 (by decide) ?_
    have hP9 := hP.sub (ws' := [(hm, .inr (7, [.ref p0, .ref c0, .ref n0, .ref b0, .ref e0, .ref f0, .ref l1, .ref l2, .ref l3, .ref l4, .ref l5, .int (u.2.1 11 2), .int (msk (u.2.2.2 1)), .long (u.1 9 0)]))]) [0] rfl
    have hD9 := hD.sub (ws' := [(hm, .inr (7, [.ref p0, .ref c0, .ref n0, .ref b0, .ref e0, .ref f0, .ref l1, .ref l2, .ref l3, .ref l4, .ref l5, .int (u.2.1 11 2), .int (msk (u.2.2.2 1)), .long (u.1 9 0)]))]) [0] (by decide) rfl
    exact W.iret (v := (-2)) hx hb hr (fun t9 ht9 hW9 => ⟨⟨(-2), [(hm, .inr (7, [.ref p0, .ref c0, .ref n0, .ref b0, .ref e0, .ref f0, .ref l1, .ref l2, .ref l3, .ref l4, .ref l5, .int (u.2.1 11 2), .int (msk (u.2.2.2 1)), .long (u.1 9 0)]))], rfl, ⟨rfl, rfl⟩, by rw [ht9]; exact hP9, hD9⟩, hS.F ht9⟩) hS.2.2 dX8_setLevelling_12
set_option maxHeartbeats 4000000 in
set_option maxRecDepth 100000 in
theorem c_X8_setHeading_ok (l : Launch) (D : va_G) (k : Nat → ClassId) (sz : Nat) (hm p0 c0 n0 b0 e0 e1 e2 e3 e4 e5 e6 e7 g0 q0 f0 l1 l2 l3 l4 l5 : Nat) (u : zS) (a : Int32) (h0 : zin a 0 20 = true) : Met l yX8_setHeading wsX8_setHeading ({ frames := 2, cells := 0, slots := 0, locals := 46 } : Room) (va_Pc [.ref hm, .int a] (zPre D k [(hm, .inr (7, [.ref p0, .ref c0, .ref n0, .ref b0, .ref e0, .ref f0, .ref l1, .ref l2, .ref l3, .ref l4, .ref l5, .int (u.2.1 11 2), .int (msk (u.2.2.2 1)), .long (u.1 9 0)])), (e0, .inr (4, [.ref g0, .ref q0, .ref e1, .ref e2, .ref e3, .ref e4, .ref e5, .ref e6, .ref e7, .int (u.2.1 11 3), .int (u.2.1 11 4), .int (u.2.1 11 5)])), (e2, zaJ k 3 (u.1 6))] sz zX0)) (zQi D [(hm, .inr (7, [.ref p0, .ref c0, .ref n0, .ref b0, .ref e0, .ref f0, .ref l1, .ref l2, .ref l3, .ref l4, .ref l5, .int (u.2.1 11 2), .int (msk (u.2.2.2 1)), .long (u.1 9 0)])), (e0, .inr (4, [.ref g0, .ref q0, .ref e1, .ref e2, .ref e3, .ref e4, .ref e5, .ref e6, .ref e7, .int (u.2.1 11 3), .int (u.2.1 11 4), .int (u.2.1 11 5)])), (e2, zaJ k 3 (u.1 6))] sz (u.2.1 11 5) (fun w : va_W => w = [(hm, .inr (7, [.ref p0, .ref c0, .ref n0, .ref b0, .ref e0, .ref f0, .ref l1, .ref l2, .ref l3, .ref l4, .ref l5, .int (u.2.1 11 2), .int (msk (u.2.2.2 1)), .long (u.1 9 0)])), (e0, .inr (4, [.ref g0, .ref q0, .ref e1, .ref e2, .ref e3, .ref e4, .ref e5, .ref e6, .ref e7, .int (u.2.1 11 3), .int (u.2.1 11 4), .int a])), (e2, zaJ k 3 (chf (u.2.1 11 5) a (u.1 6)))])) 0 0 (va_A [(hm, .inr (7, [.ref p0, .ref c0, .ref n0, .ref b0, .ref e0, .ref f0, .ref l1, .ref l2, .ref l3, .ref l4, .ref l5, .int (u.2.1 11 2), .int (msk (u.2.2.2 1)), .long (u.1 9 0)])), (e0, .inr (4, [.ref g0, .ref q0, .ref e1, .ref e2, .ref e3, .ref e4, .ref e5, .ref e6, .ref e7, .int (u.2.1 11 3), .int (u.2.1 11 4), .int (u.2.1 11 5)])), (e2, zaJ k 3 (u.1 6))] sz) := by
  refine Met.ofW (cc := cX8_setHeading) (maxL := 2) (ret := (some .int)) (by decide) rfl ?_
  intro p e s m args below meth c s₁ B hml hv
  obtain ⟨rfl, hsz, hP, hK, hD0, hE⟩ := hv
  have hx := B.exec
  have hb := B.bytes
  have hr := B.returns
  have hts := atoms_spec (ws := wsX8_setHeading) B.pre
  have hown : s.vm.findClass RX8 = some m.cls := findClass_of_methodNamed B.named
  have hlocks := B.notSynchronized
  subst hsz
  have hD := hD0.self (sz := s.heap.size)
  delta zQi zB
  generalize hAe : va_A [(hm, .inr (7, [.ref p0, .ref c0, .ref n0, .ref b0, .ref e0, .ref f0, .ref l1, .ref l2, .ref l3, .ref l4, .ref l5, .int (u.2.1 11 2), .int (msk (u.2.2.2 1)), .long (u.1 9 0)])), (e0, .inr (4, [.ref g0, .ref q0, .ref e1, .ref e2, .ref e3, .ref e4, .ref e5, .ref e6, .ref e7, .int (u.2.1 11 3), .int (u.2.1 11 4), .int (u.2.1 11 5)])), (e2, zaJ k 3 (u.1 6))] s.heap.size = A at hD hE ⊢
  have hA : ∀ q : Nat, s.heap.size ≤ q → A q := fun q h => by rw [← hAe]; exact Or.inr h
  have hS : va_S A s.heap s.heap [] := va_S.rf
  have hl := lv_entry [.ref hm, .int a] (n := 2) (Nat.le_of_ble_eq_true rfl)
  rw [lg_entry_eq]
  generalize (lg_sl [.ref hm, .int a] ++ List.replicate (2 - (lg_sl [.ref hm, .int a]).length) Slot.unset).toArray = ls at hl ⊢
  have hl : lv_has ls 2 [(0, .ref hm), (1, .int a)] := hl
  have hl40 : (Cond.fieldLink RX8 40 "InertialReference" "estimator" "LInertialReference$Estimator;").before #[Value.ref hm, Value.int a] s = true := zw hts 1 rfl
  have hinX8 : ∀ w ∈ u_ws RX8 TX8 14, w ∈ wsX8_setHeading := fun w h => List.mem_cons_of_mem _ (List.mem_append_left _ (List.mem_append_right _ h))
  refine lv_iload_n hx hb dX8_setHeading_0 rfl (lv_at hl 1 rfl) ?_
  refine lv_iconst (v := 0) hx hb dX8_setHeading_1 (by decide) ?_
  refine lv_bipush (v := 20) hx hb dX8_setHeading_2 (by decide) ?_
  refine z_calli0 (wc := []) (wr := [(hm, .inr (7, [.ref p0, .ref c0, .ref n0, .ref b0, .ref e0, .ref f0, .ref l1, .ref l2, .ref l3, .ref l4, .ref l5, .int (u.2.1 11 2), .int (msk (u.2.2.2 1)), .long (u.1 9 0)])), (e0, .inr (4, [.ref g0, .ref q0, .ref e1, .ref e2, .ref e3, .ref e4, .ref e5, .ref e6, .ref e7, .int (u.2.1 11 3), .int (u.2.1 11 4), .int (u.2.1 11 5)])), (e2, zaJ k 3 (u.1 6))]) (va_runS (As := [.int a, .int 0, .int 20]) (rest := []) ⟨hx, hb, hml, hown, hts⟩ (c_X5_isBetween l D k s.heap.size a 0 20) (va_cwS 3 hts gX8_setHeading_X5_isBetween rfl rfl rfl (by decide +kernel) ⟨Nat.le_of_ble_eq_true rfl, Nat.le_of_ble_eq_true rfl⟩) (z_preS (wc := []) hP hD hK [] rfl rfl zb0 zp0) rfl rfl hl.1 rfl (lv_room (Nat.le_of_ble_eq_true rfl)) dX8_setHeading_4 ⟨Nat.zero_le _, Nat.zero_le _⟩) hP hD hS hA [] [0, 1, 2] rfl rfl rfl (by decide) (fun w H locs hF hP hD hS => ?_)
  subst hF
  have hP : va_P D vwCl [(hm, .inr (7, [.ref p0, .ref c0, .ref n0, .ref b0, .ref e0, .ref f0, .ref l1, .ref l2, .ref l3, .ref l4, .ref l5, .int (u.2.1 11 2), .int (msk (u.2.2.2 1)), .long (u.1 9 0)])), (e0, .inr (4, [.ref g0, .ref q0, .ref e1, .ref e2, .ref e3, .ref e4, .ref e5, .ref e6, .ref e7, .int (u.2.1 11 3), .int (u.2.1 11 4), .int (u.2.1 11 5)])), (e2, zaJ k 3 (u.1 6))] H := hP
  have hD : va_D A [(hm, .inr (7, [.ref p0, .ref c0, .ref n0, .ref b0, .ref e0, .ref f0, .ref l1, .ref l2, .ref l3, .ref l4, .ref l5, .int (u.2.1 11 2), .int (msk (u.2.2.2 1)), .long (u.1 9 0)])), (e0, .inr (4, [.ref g0, .ref q0, .ref e1, .ref e2, .ref e3, .ref e4, .ref e5, .ref e6, .ref e7, .int (u.2.1 11 3), .int (u.2.1 11 4), .int (u.2.1 11 5)])), (e2, zaJ k 3 (u.1 6))] := hD
  refine W.eq (g2 := F0 m 7 ls (.int (zb (zin a 0 20)) :: [])) (by rw [zIi a 0 20 (A := 0) (B := 20) (by decide) (by decide)]) ?_
  refine lv_if_ne (tgt := 13) hx hb dX8_setHeading_7 (by decide) (fun c_1 => ?_) (fun c_1 => ?_)
  · skip
    have c_1 := zb_n c_1
    refine lv_aload_n hx hb dX8_setHeading_13 rfl (lv_at hl 0 rfl) ?_
    refine va_get (D := D) (ci := 7) (v := .ref e0) (C := RX8) (T := TX8) (N := 14) hx hb hts hinX8 hown hK hP 0 rfl rfl 4 (Nat.le_of_ble_eq_true rfl) hl40 (fun _ h9 => h9) rfl dX8_setHeading_14 ?_
    refine lv_iload_n hx hb dX8_setHeading_17 rfl (lv_at hl 1 rfl) ?_
    refine z_calli0 (wc := [(e0, .inr (4, [.ref g0, .ref q0, .ref e1, .ref e2, .ref e3, .ref e4, .ref e5, .ref e6, .ref e7, .int (u.2.1 11 3), .int (u.2.1 11 4), .int (u.2.1 11 5)])), (e2, zaJ k 3 (u.1 6))]) (wr := [(hm, .inr (7, [.ref p0, .ref c0, .ref n0, .ref b0, .ref e0, .ref f0, .ref l1, .ref l2, .ref l3, .ref l4, .ref l5, .int (u.2.1 11 2), .int (msk (u.2.2.2 1)), .long (u.1 9 0)]))]) (va_runV (As := [.int a]) (rest := []) ⟨hx, hb, hml, hown, hts⟩ (c_X4_changeHeading l D k H.size e0 q0 e1 e2 e3 e4 e5 e6 e7 g0 0 0 0 0 0 0 0 0 (u.1 6) (u.2.1 11 3) (u.2.1 11 4) (u.2.1 11 5) a) (cwV 1 hts gX8_setHeading_X4_changeHeading rfl rfl rfl (by decide +kernel) ⟨Nat.le_of_ble_eq_true rfl, Nat.le_of_ble_eq_true rfl⟩) (z_preV (wc := [(e0, .inr (4, [.ref g0, .ref q0, .ref e1, .ref e2, .ref e3, .ref e4, .ref e5, .ref e6, .ref e7, .int (u.2.1 11 3), .int (u.2.1 11 4), .int (u.2.1 11 5)])), (e2, zaJ k 3 (u.1 6))]) 1 4 hP hD hK [1, 2] rfl rfl rfl rfl zb0 zp0) rfl rfl hl.1 rfl (lv_room (Nat.le_of_ble_eq_true rfl)) dX8_setHeading_18 ⟨Nat.zero_le _, Nat.zero_le _⟩) hP hD hS hA [1, 2] [0] rfl rfl rfl (by decide) (fun w H locs hF hP hD hS => ?_)
    subst hF
    have hP : va_P D vwCl [(hm, .inr (7, [.ref p0, .ref c0, .ref n0, .ref b0, .ref e0, .ref f0, .ref l1, .ref l2, .ref l3, .ref l4, .ref l5, .int (u.2.1 11 2), .int (msk (u.2.2.2 1)), .long (u.1 9 0)])), (e0, .inr (4, [.ref g0, .ref q0, .ref e1, .ref e2, .ref e3, .ref e4, .ref e5, .ref e6, .ref e7, .int (u.2.1 11 3), .int (u.2.1 11 4), .int a])), (e2, zaJ k 3 (chf (u.2.1 11 5) a (u.1 6)))] H := hP
    have hD : va_D A [(hm, .inr (7, [.ref p0, .ref c0, .ref n0, .ref b0, .ref e0, .ref f0, .ref l1, .ref l2, .ref l3, .ref l4, .ref l5, .int (u.2.1 11 2), .int (msk (u.2.2.2 1)), .long (u.1 9 0)])), (e0, .inr (4, [.ref g0, .ref q0, .ref e1, .ref e2, .ref e3, .ref e4, .ref e5, .ref e6, .ref e7, .int (u.2.1 11 3), .int (u.2.1 11 4), .int a])), (e2, zaJ k 3 (chf (u.2.1 11 5) a (u.1 6)))] := hD
    have hP9 := hP.sub (ws' := [(hm, .inr (7, [.ref p0, .ref c0, .ref n0, .ref b0, .ref e0, .ref f0, .ref l1, .ref l2, .ref l3, .ref l4, .ref l5, .int (u.2.1 11 2), .int (msk (u.2.2.2 1)), .long (u.1 9 0)])), (e0, .inr (4, [.ref g0, .ref q0, .ref e1, .ref e2, .ref e3, .ref e4, .ref e5, .ref e6, .ref e7, .int (u.2.1 11 3), .int (u.2.1 11 4), .int a])), (e2, zaJ k 3 (chf (u.2.1 11 5) a (u.1 6)))]) [0, 1, 2] rfl
    have hD9 := hD.sub (ws' := [(hm, .inr (7, [.ref p0, .ref c0, .ref n0, .ref b0, .ref e0, .ref f0, .ref l1, .ref l2, .ref l3, .ref l4, .ref l5, .int (u.2.1 11 2), .int (msk (u.2.2.2 1)), .long (u.1 9 0)])), (e0, .inr (4, [.ref g0, .ref q0, .ref e1, .ref e2, .ref e3, .ref e4, .ref e5, .ref e6, .ref e7, .int (u.2.1 11 3), .int (u.2.1 11 4), .int a])), (e2, zaJ k 3 (chf (u.2.1 11 5) a (u.1 6)))]) [0, 1, 2] (by decide) rfl
    exact W.iret (v := (u.2.1 11 5)) hx hb hr (fun t9 ht9 hW9 => ⟨⟨(u.2.1 11 5), [(hm, .inr (7, [.ref p0, .ref c0, .ref n0, .ref b0, .ref e0, .ref f0, .ref l1, .ref l2, .ref l3, .ref l4, .ref l5, .int (u.2.1 11 2), .int (msk (u.2.2.2 1)), .long (u.1 9 0)])), (e0, .inr (4, [.ref g0, .ref q0, .ref e1, .ref e2, .ref e3, .ref e4, .ref e5, .ref e6, .ref e7, .int (u.2.1 11 3), .int (u.2.1 11 4), .int a])), (e2, zaJ k 3 (chf (u.2.1 11 5) a (u.1 6)))], rfl, ⟨rfl, rfl⟩, by rw [ht9]; exact hP9, hD9⟩, hS.F ht9⟩) hS.2.2 dX8_setHeading_21
  · skip
    have c_1 := zb_e c_1
    first | exact absurd (c_1.symm.trans h0) (by decide)
set_option maxHeartbeats 4000000 in
set_option maxRecDepth 100000 in
theorem c_X8_setHeading_no (l : Launch) (D : va_G) (k : Nat → ClassId) (sz : Nat) (hm p0 c0 n0 b0 e0 f0 l1 l2 l3 l4 l5 : Nat) (u : zS) (a : Int32) (hno : zin a 0 20 = false) : Met l yX8_setHeading wsX8_setHeading ({ frames := 1, cells := 0, slots := 0, locals := 22 } : Room) (va_Pc [.ref hm, .int a] (zPre D k [(hm, .inr (7, [.ref p0, .ref c0, .ref n0, .ref b0, .ref e0, .ref f0, .ref l1, .ref l2, .ref l3, .ref l4, .ref l5, .int (u.2.1 11 2), .int (msk (u.2.2.2 1)), .long (u.1 9 0)]))] sz zX0)) (zQi D [(hm, .inr (7, [.ref p0, .ref c0, .ref n0, .ref b0, .ref e0, .ref f0, .ref l1, .ref l2, .ref l3, .ref l4, .ref l5, .int (u.2.1 11 2), .int (msk (u.2.2.2 1)), .long (u.1 9 0)]))] sz (-2) (fun w : va_W => w = [(hm, .inr (7, [.ref p0, .ref c0, .ref n0, .ref b0, .ref e0, .ref f0, .ref l1, .ref l2, .ref l3, .ref l4, .ref l5, .int (u.2.1 11 2), .int (msk (u.2.2.2 1)), .long (u.1 9 0)]))])) 0 0 (va_A [(hm, .inr (7, [.ref p0, .ref c0, .ref n0, .ref b0, .ref e0, .ref f0, .ref l1, .ref l2, .ref l3, .ref l4, .ref l5, .int (u.2.1 11 2), .int (msk (u.2.2.2 1)), .long (u.1 9 0)]))] sz) := by
  refine Met.ofW (cc := cX8_setHeading) (maxL := 2) (ret := (some .int)) (by decide) rfl ?_
  intro p e s m args below meth c s₁ B hml hv
  obtain ⟨rfl, hsz, hP, hK, hD0, hE⟩ := hv
  have hx := B.exec
  have hb := B.bytes
  have hr := B.returns
  have hts := atoms_spec (ws := wsX8_setHeading) B.pre
  have hown : s.vm.findClass RX8 = some m.cls := findClass_of_methodNamed B.named
  have hlocks := B.notSynchronized
  subst hsz
  have hD := hD0.self (sz := s.heap.size)
  delta zQi zB
  generalize hAe : va_A [(hm, .inr (7, [.ref p0, .ref c0, .ref n0, .ref b0, .ref e0, .ref f0, .ref l1, .ref l2, .ref l3, .ref l4, .ref l5, .int (u.2.1 11 2), .int (msk (u.2.2.2 1)), .long (u.1 9 0)]))] s.heap.size = A at hD hE ⊢
  have hA : ∀ q : Nat, s.heap.size ≤ q → A q := fun q h => by rw [← hAe]; exact Or.inr h
  have hS : va_S A s.heap s.heap [] := va_S.rf
  have hl := lv_entry [.ref hm, .int a] (n := 2) (Nat.le_of_ble_eq_true rfl)
  rw [lg_entry_eq]
  generalize (lg_sl [.ref hm, .int a] ++ List.replicate (2 - (lg_sl [.ref hm, .int a]).length) Slot.unset).toArray = ls at hl ⊢
  have hl : lv_has ls 2 [(0, .ref hm), (1, .int a)] := hl
  refine lv_iload_n hx hb dX8_setHeading_0 rfl (lv_at hl 1 rfl) ?_
  refine lv_iconst (v := 0) hx hb dX8_setHeading_1 (by decide) ?_
  refine lv_bipush (v := 20) hx hb dX8_setHeading_2 (by decide) ?_
  refine z_calli0 (wc := []) (wr := [(hm, .inr (7, [.ref p0, .ref c0, .ref n0, .ref b0, .ref e0, .ref f0, .ref l1, .ref l2, .ref l3, .ref l4, .ref l5, .int (u.2.1 11 2), .int (msk (u.2.2.2 1)), .long (u.1 9 0)]))]) (va_runS (As := [.int a, .int 0, .int 20]) (rest := []) ⟨hx, hb, hml, hown, hts⟩ (c_X5_isBetween l D k s.heap.size a 0 20) (va_cwS 3 hts gX8_setHeading_X5_isBetween rfl rfl rfl (by decide +kernel) ⟨Nat.le_of_ble_eq_true rfl, Nat.le_of_ble_eq_true rfl⟩) (z_preS (wc := []) hP hD hK [] rfl rfl zb0 zp0) rfl rfl hl.1 rfl (lv_room (Nat.le_of_ble_eq_true rfl)) dX8_setHeading_4 ⟨Nat.zero_le _, Nat.zero_le _⟩) hP hD hS hA [] [0] rfl rfl rfl (by decide) (fun w H locs hF hP hD hS => ?_)
  subst hF
  have hP : va_P D vwCl [(hm, .inr (7, [.ref p0, .ref c0, .ref n0, .ref b0, .ref e0, .ref f0, .ref l1, .ref l2, .ref l3, .ref l4, .ref l5, .int (u.2.1 11 2), .int (msk (u.2.2.2 1)), .long (u.1 9 0)]))] H := hP
  have hD : va_D A [(hm, .inr (7, [.ref p0, .ref c0, .ref n0, .ref b0, .ref e0, .ref f0, .ref l1, .ref l2, .ref l3, .ref l4, .ref l5, .int (u.2.1 11 2), .int (msk (u.2.2.2 1)), .long (u.1 9 0)]))] := hD
  refine W.eq (g2 := F0 m 7 ls (.int (zb (zin a 0 20)) :: [])) (by rw [zIi a 0 20 (A := 0) (B := 20) (by decide) (by decide)]) ?_
  refine lv_if_ne (tgt := 13) hx hb dX8_setHeading_7 (by decide) (fun c_1 => ?_) (fun c_1 => ?_)
  · skip
    have c_1 := zb_n c_1
    rw [c_1] at hno; exact absurd hno (by decide)
  · skip
    have c_1 := zb_e c_1
    refine lv_bipush (v := (-2)) hx hb dX8_setHeading_10 (by decide) ?_
    have hP9 := hP.sub (ws' := [(hm, .inr (7, [.ref p0, .ref c0, .ref n0, .ref b0, .ref e0, .ref f0, .ref l1, .ref l2, .ref l3, .ref l4, .ref l5, .int (u.2.1 11 2), .int (msk (u.2.2.2 1)), .long (u.1 9 0)]))]) [0] rfl
    have hD9 := hD.sub (ws' := [(hm, .inr (7, [.ref p0, .ref c0, .ref n0, .ref b0, .ref e0, .ref f0, .ref l1, .ref l2, .ref l3, .ref l4, .ref l5, .int (u.2.1 11 2), .int (msk (u.2.2.2 1)), .long (u.1 9 0)]))]) [0] (by decide) rfl
    exact W.iret (v := (-2)) hx hb hr (fun t9 ht9 hW9 => ⟨⟨(-2), [(hm, .inr (7, [.ref p0, .ref c0, .ref n0, .ref b0, .ref e0, .ref f0, .ref l1, .ref l2, .ref l3, .ref l4, .ref l5, .int (u.2.1 11 2), .int (msk (u.2.2.2 1)), .long (u.1 9 0)]))], rfl, ⟨rfl, rfl⟩, by rw [ht9]; exact hP9, hD9⟩, hS.F ht9⟩) hS.2.2 dX8_setHeading_12
set_option maxHeartbeats 4000000 in
set_option maxRecDepth 100000 in
theorem c_X8_startCalibration_ok (l : Launch) (D : va_G) (k : Nat → ClassId) (sz : Nat) (hm p0 c0 n0 b0 e0 e1 e2 e3 e4 e5 e6 e7 g0 q0 q1 f0 l1 l2 l3 l4 l5 : Nat) (u : zS) (a : Int32) (h0 : zin a 1 1000 = true) (hr3 : run0 (u.2.1 11 6) = false) : Met l yX8_startCalibration wsX8_startCalibration ({ frames := 2, cells := 0, slots := 0, locals := 45 } : Room) (va_Pc [.ref hm, .int a] (zPre D k [(hm, .inr (7, [.ref p0, .ref c0, .ref n0, .ref b0, .ref e0, .ref f0, .ref l1, .ref l2, .ref l3, .ref l4, .ref l5, .int (u.2.1 11 2), .int (msk (u.2.2.2 1)), .long (u.1 9 0)])), (e0, .inr (4, [.ref g0, .ref q0, .ref e1, .ref e2, .ref e3, .ref e4, .ref e5, .ref e6, .ref e7, .int (u.2.1 11 3), .int (u.2.1 11 4), .int (u.2.1 11 5)])), (q0, .inr (2, [.ref q1, .int (u.2.1 11 7), .int (u.2.1 11 6)])), (q1, zaJ k 3 (u.1 5))] sz zN)) (zQi D [(hm, .inr (7, [.ref p0, .ref c0, .ref n0, .ref b0, .ref e0, .ref f0, .ref l1, .ref l2, .ref l3, .ref l4, .ref l5, .int (u.2.1 11 2), .int (msk (u.2.2.2 1)), .long (u.1 9 0)])), (e0, .inr (4, [.ref g0, .ref q0, .ref e1, .ref e2, .ref e3, .ref e4, .ref e5, .ref e6, .ref e7, .int (u.2.1 11 3), .int (u.2.1 11 4), .int (u.2.1 11 5)])), (q0, .inr (2, [.ref q1, .int (u.2.1 11 7), .int (u.2.1 11 6)])), (q1, zaJ k 3 (u.1 5))] sz 0 (fun w : va_W => w = [(hm, .inr (7, [.ref p0, .ref c0, .ref n0, .ref b0, .ref e0, .ref f0, .ref l1, .ref l2, .ref l3, .ref l4, .ref l5, .int (u.2.1 11 2), .int (msk (u.2.2.2 1)), .long (u.1 9 0)])), (e0, .inr (4, [.ref g0, .ref q0, .ref e1, .ref e2, .ref e3, .ref e4, .ref e5, .ref e6, .ref e7, .int (u.2.1 11 3), .int (u.2.1 11 4), .int (u.2.1 11 5)])), (q0, .inr (2, [.ref q1, .int a, .int a])), (q1, zaJ k 3 (v3 0 0 0))])) 0 0 (va_A [(hm, .inr (7, [.ref p0, .ref c0, .ref n0, .ref b0, .ref e0, .ref f0, .ref l1, .ref l2, .ref l3, .ref l4, .ref l5, .int (u.2.1 11 2), .int (msk (u.2.2.2 1)), .long (u.1 9 0)])), (e0, .inr (4, [.ref g0, .ref q0, .ref e1, .ref e2, .ref e3, .ref e4, .ref e5, .ref e6, .ref e7, .int (u.2.1 11 3), .int (u.2.1 11 4), .int (u.2.1 11 5)])), (q0, .inr (2, [.ref q1, .int (u.2.1 11 7), .int (u.2.1 11 6)])), (q1, zaJ k 3 (u.1 5))] sz) := by
  refine Met.ofW (cc := cX8_startCalibration) (maxL := 2) (ret := (some .int)) (by decide) rfl ?_
  intro p e s m args below meth c s₁ B hml hv
  obtain ⟨rfl, hsz, hP, hK, hD0, hE⟩ := hv
  have hx := B.exec
  have hb := B.bytes
  have hr := B.returns
  have hts := atoms_spec (ws := wsX8_startCalibration) B.pre
  have hown : s.vm.findClass RX8 = some m.cls := findClass_of_methodNamed B.named
  have hlocks := B.notSynchronized
  subst hsz
  have hD := hD0.self (sz := s.heap.size)
  delta zQi zB
  generalize hAe : va_A [(hm, .inr (7, [.ref p0, .ref c0, .ref n0, .ref b0, .ref e0, .ref f0, .ref l1, .ref l2, .ref l3, .ref l4, .ref l5, .int (u.2.1 11 2), .int (msk (u.2.2.2 1)), .long (u.1 9 0)])), (e0, .inr (4, [.ref g0, .ref q0, .ref e1, .ref e2, .ref e3, .ref e4, .ref e5, .ref e6, .ref e7, .int (u.2.1 11 3), .int (u.2.1 11 4), .int (u.2.1 11 5)])), (q0, .inr (2, [.ref q1, .int (u.2.1 11 7), .int (u.2.1 11 6)])), (q1, zaJ k 3 (u.1 5))] s.heap.size = A at hD hE ⊢
  have hA : ∀ q : Nat, s.heap.size ≤ q → A q := fun q h => by rw [← hAe]; exact Or.inr h
  have hS : va_S A s.heap s.heap [] := va_S.rf
  have hl := lv_entry [.ref hm, .int a] (n := 2) (Nat.le_of_ble_eq_true rfl)
  rw [lg_entry_eq]
  generalize (lg_sl [.ref hm, .int a] ++ List.replicate (2 - (lg_sl [.ref hm, .int a]).length) Slot.unset).toArray = ls at hl ⊢
  have hl : lv_has ls 2 [(0, .ref hm), (1, .int a)] := hl
  have hl40 : (Cond.fieldLink RX8 40 "InertialReference" "estimator" "LInertialReference$Estimator;").before #[Value.ref hm, Value.int a] s = true := zw hts 1 rfl
  have hinX8 : ∀ w ∈ u_ws RX8 TX8 14, w ∈ wsX8_startCalibration := fun w h => List.mem_cons_of_mem _ (List.mem_append_left _ (List.mem_append_left _ (List.mem_append_right _ h)))
  have hl151 : (Cond.fieldLinkNest RX8 151 "InertialReference$Estimator" "calibration" "LInertialReference$Calibration;" "InertialReference").before #[Value.ref hm, Value.int a] s = true := va_Nw.use rfl (zn_RX8_151 hE)
  have hinX4 : ∀ w ∈ u_ws RX4 TX4 12, w ∈ wsX8_startCalibration := fun w h => List.mem_cons_of_mem _ (List.mem_append_left _ (List.mem_append_right _ h))
  refine lv_iload_n hx hb dX8_startCalibration_0 rfl (lv_at hl 1 rfl) ?_
  refine lv_iconst (v := 1) hx hb dX8_startCalibration_1 (by decide) ?_
  refine lv_sipush (v := 1000) hx hb dX8_startCalibration_2 (by decide) ?_
  refine z_calli0 (wc := []) (wr := [(hm, .inr (7, [.ref p0, .ref c0, .ref n0, .ref b0, .ref e0, .ref f0, .ref l1, .ref l2, .ref l3, .ref l4, .ref l5, .int (u.2.1 11 2), .int (msk (u.2.2.2 1)), .long (u.1 9 0)])), (e0, .inr (4, [.ref g0, .ref q0, .ref e1, .ref e2, .ref e3, .ref e4, .ref e5, .ref e6, .ref e7, .int (u.2.1 11 3), .int (u.2.1 11 4), .int (u.2.1 11 5)])), (q0, .inr (2, [.ref q1, .int (u.2.1 11 7), .int (u.2.1 11 6)])), (q1, zaJ k 3 (u.1 5))]) (va_runS (As := [.int a, .int 1, .int 1000]) (rest := []) ⟨hx, hb, hml, hown, hts⟩ (c_X5_isBetween l D k s.heap.size a 1 1000) (va_cwS 3 hts gX8_startCalibration_X5_isBetween rfl rfl rfl (by decide +kernel) ⟨Nat.le_of_ble_eq_true rfl, Nat.le_of_ble_eq_true rfl⟩) (z_preS (wc := []) hP hD hK [] rfl rfl zb0 zp0) rfl rfl hl.1 rfl (lv_room (Nat.le_of_ble_eq_true rfl)) dX8_startCalibration_5 ⟨Nat.zero_le _, Nat.zero_le _⟩) hP hD hS hA [] [0, 1, 2, 3] rfl rfl rfl (by decide) (fun w H locs hF hP hD hS => ?_)
  subst hF
  have hP : va_P D vwCl [(hm, .inr (7, [.ref p0, .ref c0, .ref n0, .ref b0, .ref e0, .ref f0, .ref l1, .ref l2, .ref l3, .ref l4, .ref l5, .int (u.2.1 11 2), .int (msk (u.2.2.2 1)), .long (u.1 9 0)])), (e0, .inr (4, [.ref g0, .ref q0, .ref e1, .ref e2, .ref e3, .ref e4, .ref e5, .ref e6, .ref e7, .int (u.2.1 11 3), .int (u.2.1 11 4), .int (u.2.1 11 5)])), (q0, .inr (2, [.ref q1, .int (u.2.1 11 7), .int (u.2.1 11 6)])), (q1, zaJ k 3 (u.1 5))] H := hP
  have hD : va_D A [(hm, .inr (7, [.ref p0, .ref c0, .ref n0, .ref b0, .ref e0, .ref f0, .ref l1, .ref l2, .ref l3, .ref l4, .ref l5, .int (u.2.1 11 2), .int (msk (u.2.2.2 1)), .long (u.1 9 0)])), (e0, .inr (4, [.ref g0, .ref q0, .ref e1, .ref e2, .ref e3, .ref e4, .ref e5, .ref e6, .ref e7, .int (u.2.1 11 3), .int (u.2.1 11 4), .int (u.2.1 11 5)])), (q0, .inr (2, [.ref q1, .int (u.2.1 11 7), .int (u.2.1 11 6)])), (q1, zaJ k 3 (u.1 5))] := hD
  refine W.eq (g2 := F0 m 8 ls (.int (zb (zin a 1 1000)) :: [])) (by rw [zIi a 1 1000 (A := 1) (B := 1000) (by decide) (by decide)]) ?_
  refine lv_if_ne (tgt := 14) hx hb dX8_startCalibration_8 (by decide) (fun c_1 => ?_) (fun c_1 => ?_)
  · skip
    have c_1 := zb_n c_1
    refine lv_aload_n hx hb dX8_startCalibration_14 rfl (lv_at hl 0 rfl) ?_
    refine va_get (D := D) (ci := 7) (v := .ref e0) (C := RX8) (T := TX8) (N := 14) hx hb hts hinX8 hown hK hP 0 rfl rfl 4 (Nat.le_of_ble_eq_true rfl) hl40 (fun _ h9 => h9) rfl dX8_startCalibration_15 ?_
    refine va_getN (D := D) (ci := 4) (v := .ref q0) (C := RX4) (T := TX4) (N := 12) hx hb hts hinX4 hown hK hP 1 rfl rfl 1 (Nat.le_of_ble_eq_true rfl) hl151 (fun _ h9 => h9) rfl dX8_startCalibration_18 ?_
    refine z_calli0 (wc := [(q0, .inr (2, [.ref q1, .int (u.2.1 11 7), .int (u.2.1 11 6)]))]) (wr := [(hm, .inr (7, [.ref p0, .ref c0, .ref n0, .ref b0, .ref e0, .ref f0, .ref l1, .ref l2, .ref l3, .ref l4, .ref l5, .int (u.2.1 11 2), .int (msk (u.2.2.2 1)), .long (u.1 9 0)])), (e0, .inr (4, [.ref g0, .ref q0, .ref e1, .ref e2, .ref e3, .ref e4, .ref e5, .ref e6, .ref e7, .int (u.2.1 11 3), .int (u.2.1 11 4), .int (u.2.1 11 5)])), (q1, zaJ k 3 (u.1 5))]) (va_runV (As := []) (rest := []) ⟨hx, hb, hml, hown, hts⟩ (c_X2_isRunning l D k H.size q0 q1 (u.2.1 11 7) (u.2.1 11 6)) (cwV 0 hts gX8_startCalibration_X2_isRunning rfl rfl rfl (by decide +kernel) ⟨Nat.le_of_ble_eq_true rfl, Nat.le_of_ble_eq_true rfl⟩) (z_preV (wc := [(q0, .inr (2, [.ref q1, .int (u.2.1 11 7), .int (u.2.1 11 6)]))]) 2 2 hP hD hK [2] rfl rfl rfl rfl zb0 zp0) rfl rfl hl.1 rfl (lv_room (Nat.le_of_ble_eq_true rfl)) dX8_startCalibration_21 ⟨Nat.zero_le _, Nat.zero_le _⟩) hP hD hS hA [2] [0, 1, 3] rfl rfl rfl (by decide) (fun w H locs hF hP hD hS => ?_)
    subst hF
    have hP : va_P D vwCl [(hm, .inr (7, [.ref p0, .ref c0, .ref n0, .ref b0, .ref e0, .ref f0, .ref l1, .ref l2, .ref l3, .ref l4, .ref l5, .int (u.2.1 11 2), .int (msk (u.2.2.2 1)), .long (u.1 9 0)])), (e0, .inr (4, [.ref g0, .ref q0, .ref e1, .ref e2, .ref e3, .ref e4, .ref e5, .ref e6, .ref e7, .int (u.2.1 11 3), .int (u.2.1 11 4), .int (u.2.1 11 5)])), (q1, zaJ k 3 (u.1 5)), (q0, .inr (2, [.ref q1, .int (u.2.1 11 7), .int (u.2.1 11 6)]))] H := hP
    have hD : va_D A [(hm, .inr (7, [.ref p0, .ref c0, .ref n0, .ref b0, .ref e0, .ref f0, .ref l1, .ref l2, .ref l3, .ref l4, .ref l5, .int (u.2.1 11 2), .int (msk (u.2.2.2 1)), .long (u.1 9 0)])), (e0, .inr (4, [.ref g0, .ref q0, .ref e1, .ref e2, .ref e3, .ref e4, .ref e5, .ref e6, .ref e7, .int (u.2.1 11 3), .int (u.2.1 11 4), .int (u.2.1 11 5)])), (q1, zaJ k 3 (u.1 5)), (q0, .inr (2, [.ref q1, .int (u.2.1 11 7), .int (u.2.1 11 6)]))] := hD
    refine lv_if_eq (tgt := 30) hx hb dX8_startCalibration_24 (by decide) (fun c => ?_) (fun c => absurd c (by rw [hr3]; decide))
    refine lv_aload_n hx hb dX8_startCalibration_30 rfl (lv_at hl 0 rfl) ?_
    refine va_get (D := D) (ci := 7) (v := .ref e0) (C := RX8) (T := TX8) (N := 14) hx hb hts hinX8 hown hK hP 0 rfl rfl 4 (Nat.le_of_ble_eq_true rfl) hl40 (fun _ h9 => h9) rfl dX8_startCalibration_31 ?_
    refine va_getN (D := D) (ci := 4) (v := .ref q0) (C := RX4) (T := TX4) (N := 12) hx hb hts hinX4 hown hK hP 1 rfl rfl 1 (Nat.le_of_ble_eq_true rfl) hl151 (fun _ h9 => h9) rfl dX8_startCalibration_34 ?_
    refine lv_iload_n hx hb dX8_startCalibration_37 rfl (lv_at hl 1 rfl) ?_
    refine z_callv0 (wc := [(q0, .inr (2, [.ref q1, .int (u.2.1 11 7), .int (u.2.1 11 6)])), (q1, zaJ k 3 (u.1 5))]) (wr := [(hm, .inr (7, [.ref p0, .ref c0, .ref n0, .ref b0, .ref e0, .ref f0, .ref l1, .ref l2, .ref l3, .ref l4, .ref l5, .int (u.2.1 11 2), .int (msk (u.2.2.2 1)), .long (u.1 9 0)])), (e0, .inr (4, [.ref g0, .ref q0, .ref e1, .ref e2, .ref e3, .ref e4, .ref e5, .ref e6, .ref e7, .int (u.2.1 11 3), .int (u.2.1 11 4), .int (u.2.1 11 5)]))]) (va_runV (As := [.int a]) (rest := []) ⟨hx, hb, hml, hown, hts⟩ (c_X2_start l D k H.size q0 q1 (u.1 5) (u.2.1 11 7) (u.2.1 11 6) a) (cwV 1 hts gX8_startCalibration_X2_start rfl rfl rfl (by decide +kernel) ⟨Nat.le_of_ble_eq_true rfl, Nat.le_of_ble_eq_true rfl⟩) (z_preV (wc := [(q0, .inr (2, [.ref q1, .int (u.2.1 11 7), .int (u.2.1 11 6)])), (q1, zaJ k 3 (u.1 5))]) 3 2 hP hD hK [3, 2] rfl rfl rfl rfl zb0 zp0) rfl rfl hl.1 rfl (lv_room (Nat.le_of_ble_eq_true rfl)) dX8_startCalibration_38 ⟨Nat.zero_le _, Nat.zero_le _⟩) hP hD hS hA [3, 2] [0, 1] rfl rfl rfl (by decide) (fun w H locs hF hP hD hS => ?_)
    subst hF
    have hP : va_P D vwCl [(hm, .inr (7, [.ref p0, .ref c0, .ref n0, .ref b0, .ref e0, .ref f0, .ref l1, .ref l2, .ref l3, .ref l4, .ref l5, .int (u.2.1 11 2), .int (msk (u.2.2.2 1)), .long (u.1 9 0)])), (e0, .inr (4, [.ref g0, .ref q0, .ref e1, .ref e2, .ref e3, .ref e4, .ref e5, .ref e6, .ref e7, .int (u.2.1 11 3), .int (u.2.1 11 4), .int (u.2.1 11 5)])), (q0, .inr (2, [.ref q1, .int a, .int a])), (q1, zaJ k 3 (v3 0 0 0))] H := hP
    have hD : va_D A [(hm, .inr (7, [.ref p0, .ref c0, .ref n0, .ref b0, .ref e0, .ref f0, .ref l1, .ref l2, .ref l3, .ref l4, .ref l5, .int (u.2.1 11 2), .int (msk (u.2.2.2 1)), .long (u.1 9 0)])), (e0, .inr (4, [.ref g0, .ref q0, .ref e1, .ref e2, .ref e3, .ref e4, .ref e5, .ref e6, .ref e7, .int (u.2.1 11 3), .int (u.2.1 11 4), .int (u.2.1 11 5)])), (q0, .inr (2, [.ref q1, .int a, .int a])), (q1, zaJ k 3 (v3 0 0 0))] := hD
    refine lv_iconst (v := 0) hx hb dX8_startCalibration_41 (by decide) ?_
    have hP9 := hP.sub (ws' := [(hm, .inr (7, [.ref p0, .ref c0, .ref n0, .ref b0, .ref e0, .ref f0, .ref l1, .ref l2, .ref l3, .ref l4, .ref l5, .int (u.2.1 11 2), .int (msk (u.2.2.2 1)), .long (u.1 9 0)])), (e0, .inr (4, [.ref g0, .ref q0, .ref e1, .ref e2, .ref e3, .ref e4, .ref e5, .ref e6, .ref e7, .int (u.2.1 11 3), .int (u.2.1 11 4), .int (u.2.1 11 5)])), (q0, .inr (2, [.ref q1, .int a, .int a])), (q1, zaJ k 3 (v3 0 0 0))]) [0, 1, 2, 3] rfl
    have hD9 := hD.sub (ws' := [(hm, .inr (7, [.ref p0, .ref c0, .ref n0, .ref b0, .ref e0, .ref f0, .ref l1, .ref l2, .ref l3, .ref l4, .ref l5, .int (u.2.1 11 2), .int (msk (u.2.2.2 1)), .long (u.1 9 0)])), (e0, .inr (4, [.ref g0, .ref q0, .ref e1, .ref e2, .ref e3, .ref e4, .ref e5, .ref e6, .ref e7, .int (u.2.1 11 3), .int (u.2.1 11 4), .int (u.2.1 11 5)])), (q0, .inr (2, [.ref q1, .int a, .int a])), (q1, zaJ k 3 (v3 0 0 0))]) [0, 1, 2, 3] (by decide) rfl
    exact W.iret (v := 0) hx hb hr (fun t9 ht9 hW9 => ⟨⟨0, [(hm, .inr (7, [.ref p0, .ref c0, .ref n0, .ref b0, .ref e0, .ref f0, .ref l1, .ref l2, .ref l3, .ref l4, .ref l5, .int (u.2.1 11 2), .int (msk (u.2.2.2 1)), .long (u.1 9 0)])), (e0, .inr (4, [.ref g0, .ref q0, .ref e1, .ref e2, .ref e3, .ref e4, .ref e5, .ref e6, .ref e7, .int (u.2.1 11 3), .int (u.2.1 11 4), .int (u.2.1 11 5)])), (q0, .inr (2, [.ref q1, .int a, .int a])), (q1, zaJ k 3 (v3 0 0 0))], rfl, ⟨rfl, rfl⟩, by rw [ht9]; exact hP9, hD9⟩, hS.F ht9⟩) hS.2.2 dX8_startCalibration_42
  · skip
    have c_1 := zb_e c_1
    first | exact absurd (c_1.symm.trans h0) (by decide)
set_option maxHeartbeats 4000000 in
set_option maxRecDepth 100000 in
theorem c_X8_startCalibration_no (l : Launch) (D : va_G) (k : Nat → ClassId) (sz : Nat) (hm p0 c0 n0 b0 e0 f0 l1 l2 l3 l4 l5 : Nat) (u : zS) (a : Int32) (hno : zin a 1 1000 = false) : Met l yX8_startCalibration wsX8_startCalibration ({ frames := 1, cells := 0, slots := 0, locals := 22 } : Room) (va_Pc [.ref hm, .int a] (zPre D k [(hm, .inr (7, [.ref p0, .ref c0, .ref n0, .ref b0, .ref e0, .ref f0, .ref l1, .ref l2, .ref l3, .ref l4, .ref l5, .int (u.2.1 11 2), .int (msk (u.2.2.2 1)), .long (u.1 9 0)]))] sz zX0)) (zQi D [(hm, .inr (7, [.ref p0, .ref c0, .ref n0, .ref b0, .ref e0, .ref f0, .ref l1, .ref l2, .ref l3, .ref l4, .ref l5, .int (u.2.1 11 2), .int (msk (u.2.2.2 1)), .long (u.1 9 0)]))] sz (-2) (fun w : va_W => w = [(hm, .inr (7, [.ref p0, .ref c0, .ref n0, .ref b0, .ref e0, .ref f0, .ref l1, .ref l2, .ref l3, .ref l4, .ref l5, .int (u.2.1 11 2), .int (msk (u.2.2.2 1)), .long (u.1 9 0)]))])) 0 0 (va_A [(hm, .inr (7, [.ref p0, .ref c0, .ref n0, .ref b0, .ref e0, .ref f0, .ref l1, .ref l2, .ref l3, .ref l4, .ref l5, .int (u.2.1 11 2), .int (msk (u.2.2.2 1)), .long (u.1 9 0)]))] sz) := by
  refine Met.ofW (cc := cX8_startCalibration) (maxL := 2) (ret := (some .int)) (by decide) rfl ?_
  intro p e s m args below meth c s₁ B hml hv
  obtain ⟨rfl, hsz, hP, hK, hD0, hE⟩ := hv
  have hx := B.exec
  have hb := B.bytes
  have hr := B.returns
  have hts := atoms_spec (ws := wsX8_startCalibration) B.pre
  have hown : s.vm.findClass RX8 = some m.cls := findClass_of_methodNamed B.named
  have hlocks := B.notSynchronized
  subst hsz
  have hD := hD0.self (sz := s.heap.size)
  delta zQi zB
  generalize hAe : va_A [(hm, .inr (7, [.ref p0, .ref c0, .ref n0, .ref b0, .ref e0, .ref f0, .ref l1, .ref l2, .ref l3, .ref l4, .ref l5, .int (u.2.1 11 2), .int (msk (u.2.2.2 1)), .long (u.1 9 0)]))] s.heap.size = A at hD hE ⊢
  have hA : ∀ q : Nat, s.heap.size ≤ q → A q := fun q h => by rw [← hAe]; exact Or.inr h
  have hS : va_S A s.heap s.heap [] := va_S.rf
  have hl := lv_entry [.ref hm, .int a] (n := 2) (Nat.le_of_ble_eq_true rfl)
  rw [lg_entry_eq]
  generalize (lg_sl [.ref hm, .int a] ++ List.replicate (2 - (lg_sl [.ref hm, .int a]).length) Slot.unset).toArray = ls at hl ⊢
  have hl : lv_has ls 2 [(0, .ref hm), (1, .int a)] := hl
  refine lv_iload_n hx hb dX8_startCalibration_0 rfl (lv_at hl 1 rfl) ?_
  refine lv_iconst (v := 1) hx hb dX8_startCalibration_1 (by decide) ?_
  refine lv_sipush (v := 1000) hx hb dX8_startCalibration_2 (by decide) ?_
  refine z_calli0 (wc := []) (wr := [(hm, .inr (7, [.ref p0, .ref c0, .ref n0, .ref b0, .ref e0, .ref f0, .ref l1, .ref l2, .ref l3, .ref l4, .ref l5, .int (u.2.1 11 2), .int (msk (u.2.2.2 1)), .long (u.1 9 0)]))]) (va_runS (As := [.int a, .int 1, .int 1000]) (rest := []) ⟨hx, hb, hml, hown, hts⟩ (c_X5_isBetween l D k s.heap.size a 1 1000) (va_cwS 3 hts gX8_startCalibration_X5_isBetween rfl rfl rfl (by decide +kernel) ⟨Nat.le_of_ble_eq_true rfl, Nat.le_of_ble_eq_true rfl⟩) (z_preS (wc := []) hP hD hK [] rfl rfl zb0 zp0) rfl rfl hl.1 rfl (lv_room (Nat.le_of_ble_eq_true rfl)) dX8_startCalibration_5 ⟨Nat.zero_le _, Nat.zero_le _⟩) hP hD hS hA [] [0] rfl rfl rfl (by decide) (fun w H locs hF hP hD hS => ?_)
  subst hF
  have hP : va_P D vwCl [(hm, .inr (7, [.ref p0, .ref c0, .ref n0, .ref b0, .ref e0, .ref f0, .ref l1, .ref l2, .ref l3, .ref l4, .ref l5, .int (u.2.1 11 2), .int (msk (u.2.2.2 1)), .long (u.1 9 0)]))] H := hP
  have hD : va_D A [(hm, .inr (7, [.ref p0, .ref c0, .ref n0, .ref b0, .ref e0, .ref f0, .ref l1, .ref l2, .ref l3, .ref l4, .ref l5, .int (u.2.1 11 2), .int (msk (u.2.2.2 1)), .long (u.1 9 0)]))] := hD
  refine W.eq (g2 := F0 m 8 ls (.int (zb (zin a 1 1000)) :: [])) (by rw [zIi a 1 1000 (A := 1) (B := 1000) (by decide) (by decide)]) ?_
  refine lv_if_ne (tgt := 14) hx hb dX8_startCalibration_8 (by decide) (fun c_1 => ?_) (fun c_1 => ?_)
  · skip
    have c_1 := zb_n c_1
    rw [c_1] at hno; exact absurd hno (by decide)
  · skip
    have c_1 := zb_e c_1
    refine lv_bipush (v := (-2)) hx hb dX8_startCalibration_11 (by decide) ?_
    have hP9 := hP.sub (ws' := [(hm, .inr (7, [.ref p0, .ref c0, .ref n0, .ref b0, .ref e0, .ref f0, .ref l1, .ref l2, .ref l3, .ref l4, .ref l5, .int (u.2.1 11 2), .int (msk (u.2.2.2 1)), .long (u.1 9 0)]))]) [0] rfl
    have hD9 := hD.sub (ws' := [(hm, .inr (7, [.ref p0, .ref c0, .ref n0, .ref b0, .ref e0, .ref f0, .ref l1, .ref l2, .ref l3, .ref l4, .ref l5, .int (u.2.1 11 2), .int (msk (u.2.2.2 1)), .long (u.1 9 0)]))]) [0] (by decide) rfl
    exact W.iret (v := (-2)) hx hb hr (fun t9 ht9 hW9 => ⟨⟨(-2), [(hm, .inr (7, [.ref p0, .ref c0, .ref n0, .ref b0, .ref e0, .ref f0, .ref l1, .ref l2, .ref l3, .ref l4, .ref l5, .int (u.2.1 11 2), .int (msk (u.2.2.2 1)), .long (u.1 9 0)]))], rfl, ⟨rfl, rfl⟩, by rw [ht9]; exact hP9, hD9⟩, hS.F ht9⟩) hS.2.2 dX8_startCalibration_13
set_option maxHeartbeats 4000000 in
set_option maxRecDepth 100000 in
theorem c_X8_startCalibration_busy (l : Launch) (D : va_G) (k : Nat → ClassId) (sz : Nat) (hm p0 c0 n0 b0 e0 e1 e2 e3 e4 e5 e6 e7 g0 q0 q1 f0 l1 l2 l3 l4 l5 : Nat) (u : zS) (a : Int32) (h0 : zin a 1 1000 = true) (hr3 : run0 (u.2.1 11 6) = true) : Met l yX8_startCalibration wsX8_startCalibration ({ frames := 1, cells := 0, slots := 0, locals := 22 } : Room) (va_Pc [.ref hm, .int a] (zPre D k [(hm, .inr (7, [.ref p0, .ref c0, .ref n0, .ref b0, .ref e0, .ref f0, .ref l1, .ref l2, .ref l3, .ref l4, .ref l5, .int (u.2.1 11 2), .int (msk (u.2.2.2 1)), .long (u.1 9 0)])), (e0, .inr (4, [.ref g0, .ref q0, .ref e1, .ref e2, .ref e3, .ref e4, .ref e5, .ref e6, .ref e7, .int (u.2.1 11 3), .int (u.2.1 11 4), .int (u.2.1 11 5)])), (q0, .inr (2, [.ref q1, .int (u.2.1 11 7), .int (u.2.1 11 6)]))] sz zN)) (zQi D [(hm, .inr (7, [.ref p0, .ref c0, .ref n0, .ref b0, .ref e0, .ref f0, .ref l1, .ref l2, .ref l3, .ref l4, .ref l5, .int (u.2.1 11 2), .int (msk (u.2.2.2 1)), .long (u.1 9 0)])), (e0, .inr (4, [.ref g0, .ref q0, .ref e1, .ref e2, .ref e3, .ref e4, .ref e5, .ref e6, .ref e7, .int (u.2.1 11 3), .int (u.2.1 11 4), .int (u.2.1 11 5)])), (q0, .inr (2, [.ref q1, .int (u.2.1 11 7), .int (u.2.1 11 6)]))] sz (-4) (fun w : va_W => w = [(hm, .inr (7, [.ref p0, .ref c0, .ref n0, .ref b0, .ref e0, .ref f0, .ref l1, .ref l2, .ref l3, .ref l4, .ref l5, .int (u.2.1 11 2), .int (msk (u.2.2.2 1)), .long (u.1 9 0)])), (e0, .inr (4, [.ref g0, .ref q0, .ref e1, .ref e2, .ref e3, .ref e4, .ref e5, .ref e6, .ref e7, .int (u.2.1 11 3), .int (u.2.1 11 4), .int (u.2.1 11 5)])), (q0, .inr (2, [.ref q1, .int (u.2.1 11 7), .int (u.2.1 11 6)]))])) 0 0 (va_A [(hm, .inr (7, [.ref p0, .ref c0, .ref n0, .ref b0, .ref e0, .ref f0, .ref l1, .ref l2, .ref l3, .ref l4, .ref l5, .int (u.2.1 11 2), .int (msk (u.2.2.2 1)), .long (u.1 9 0)])), (e0, .inr (4, [.ref g0, .ref q0, .ref e1, .ref e2, .ref e3, .ref e4, .ref e5, .ref e6, .ref e7, .int (u.2.1 11 3), .int (u.2.1 11 4), .int (u.2.1 11 5)])), (q0, .inr (2, [.ref q1, .int (u.2.1 11 7), .int (u.2.1 11 6)]))] sz) := by
  refine Met.ofW (cc := cX8_startCalibration) (maxL := 2) (ret := (some .int)) (by decide) rfl ?_
  intro p e s m args below meth c s₁ B hml hv
  obtain ⟨rfl, hsz, hP, hK, hD0, hE⟩ := hv
  have hx := B.exec
  have hb := B.bytes
  have hr := B.returns
  have hts := atoms_spec (ws := wsX8_startCalibration) B.pre
  have hown : s.vm.findClass RX8 = some m.cls := findClass_of_methodNamed B.named
  have hlocks := B.notSynchronized
  subst hsz
  have hD := hD0.self (sz := s.heap.size)
  delta zQi zB
  generalize hAe : va_A [(hm, .inr (7, [.ref p0, .ref c0, .ref n0, .ref b0, .ref e0, .ref f0, .ref l1, .ref l2, .ref l3, .ref l4, .ref l5, .int (u.2.1 11 2), .int (msk (u.2.2.2 1)), .long (u.1 9 0)])), (e0, .inr (4, [.ref g0, .ref q0, .ref e1, .ref e2, .ref e3, .ref e4, .ref e5, .ref e6, .ref e7, .int (u.2.1 11 3), .int (u.2.1 11 4), .int (u.2.1 11 5)])), (q0, .inr (2, [.ref q1, .int (u.2.1 11 7), .int (u.2.1 11 6)]))] s.heap.size = A at hD hE ⊢
  have hA : ∀ q : Nat, s.heap.size ≤ q → A q := fun q h => by rw [← hAe]; exact Or.inr h
  have hS : va_S A s.heap s.heap [] := va_S.rf
  have hl := lv_entry [.ref hm, .int a] (n := 2) (Nat.le_of_ble_eq_true rfl)
  rw [lg_entry_eq]
  generalize (lg_sl [.ref hm, .int a] ++ List.replicate (2 - (lg_sl [.ref hm, .int a]).length) Slot.unset).toArray = ls at hl ⊢
  have hl : lv_has ls 2 [(0, .ref hm), (1, .int a)] := hl
  have hl40 : (Cond.fieldLink RX8 40 "InertialReference" "estimator" "LInertialReference$Estimator;").before #[Value.ref hm, Value.int a] s = true := zw hts 1 rfl
  have hinX8 : ∀ w ∈ u_ws RX8 TX8 14, w ∈ wsX8_startCalibration := fun w h => List.mem_cons_of_mem _ (List.mem_append_left _ (List.mem_append_left _ (List.mem_append_right _ h)))
  have hl151 : (Cond.fieldLinkNest RX8 151 "InertialReference$Estimator" "calibration" "LInertialReference$Calibration;" "InertialReference").before #[Value.ref hm, Value.int a] s = true := va_Nw.use rfl (zn_RX8_151 hE)
  have hinX4 : ∀ w ∈ u_ws RX4 TX4 12, w ∈ wsX8_startCalibration := fun w h => List.mem_cons_of_mem _ (List.mem_append_left _ (List.mem_append_right _ h))
  refine lv_iload_n hx hb dX8_startCalibration_0 rfl (lv_at hl 1 rfl) ?_
  refine lv_iconst (v := 1) hx hb dX8_startCalibration_1 (by decide) ?_
  refine lv_sipush (v := 1000) hx hb dX8_startCalibration_2 (by decide) ?_
  refine z_calli0 (wc := []) (wr := [(hm, .inr (7, [.ref p0, .ref c0, .ref n0, .ref b0, .ref e0, .ref f0, .ref l1, .ref l2, .ref l3, .ref l4, .ref l5, .int (u.2.1 11 2), .int (msk (u.2.2.2 1)), .long (u.1 9 0)])), (e0, .inr (4, [.ref g0, .ref q0, .ref e1, .ref e2, .ref e3, .ref e4, .ref e5, .ref e6, .ref e7, .int (u.2.1 11 3), .int (u.2.1 11 4), .int (u.2.1 11 5)])), (q0, .inr (2, [.ref q1, .int (u.2.1 11 7), .int (u.2.1 11 6)]))]) (va_runS (As := [.int a, .int 1, .int 1000]) (rest := []) ⟨hx, hb, hml, hown, hts⟩ (c_X5_isBetween l D k s.heap.size a 1 1000) (va_cwS 3 hts gX8_startCalibration_X5_isBetween rfl rfl rfl (by decide +kernel) ⟨Nat.le_of_ble_eq_true rfl, Nat.le_of_ble_eq_true rfl⟩) (z_preS (wc := []) hP hD hK [] rfl rfl zb0 zp0) rfl rfl hl.1 rfl (lv_room (Nat.le_of_ble_eq_true rfl)) dX8_startCalibration_5 ⟨Nat.zero_le _, Nat.zero_le _⟩) hP hD hS hA [] [0, 1, 2] rfl rfl rfl (by decide) (fun w H locs hF hP hD hS => ?_)
  subst hF
  have hP : va_P D vwCl [(hm, .inr (7, [.ref p0, .ref c0, .ref n0, .ref b0, .ref e0, .ref f0, .ref l1, .ref l2, .ref l3, .ref l4, .ref l5, .int (u.2.1 11 2), .int (msk (u.2.2.2 1)), .long (u.1 9 0)])), (e0, .inr (4, [.ref g0, .ref q0, .ref e1, .ref e2, .ref e3, .ref e4, .ref e5, .ref e6, .ref e7, .int (u.2.1 11 3), .int (u.2.1 11 4), .int (u.2.1 11 5)])), (q0, .inr (2, [.ref q1, .int (u.2.1 11 7), .int (u.2.1 11 6)]))] H := hP
  have hD : va_D A [(hm, .inr (7, [.ref p0, .ref c0, .ref n0, .ref b0, .ref e0, .ref f0, .ref l1, .ref l2, .ref l3, .ref l4, .ref l5, .int (u.2.1 11 2), .int (msk (u.2.2.2 1)), .long (u.1 9 0)])), (e0, .inr (4, [.ref g0, .ref q0, .ref e1, .ref e2, .ref e3, .ref e4, .ref e5, .ref e6, .ref e7, .int (u.2.1 11 3), .int (u.2.1 11 4), .int (u.2.1 11 5)])), (q0, .inr (2, [.ref q1, .int (u.2.1 11 7), .int (u.2.1 11 6)]))] := hD
  refine W.eq (g2 := F0 m 8 ls (.int (zb (zin a 1 1000)) :: [])) (by rw [zIi a 1 1000 (A := 1) (B := 1000) (by decide) (by decide)]) ?_
  refine lv_if_ne (tgt := 14) hx hb dX8_startCalibration_8 (by decide) (fun c_1 => ?_) (fun c_1 => ?_)
  · skip
    have c_1 := zb_n c_1
    refine lv_aload_n hx hb dX8_startCalibration_14 rfl (lv_at hl 0 rfl) ?_
    refine va_get (D := D) (ci := 7) (v := .ref e0) (C := RX8) (T := TX8) (N := 14) hx hb hts hinX8 hown hK hP 0 rfl rfl 4 (Nat.le_of_ble_eq_true rfl) hl40 (fun _ h9 => h9) rfl dX8_startCalibration_15 ?_
    refine va_getN (D := D) (ci := 4) (v := .ref q0) (C := RX4) (T := TX4) (N := 12) hx hb hts hinX4 hown hK hP 1 rfl rfl 1 (Nat.le_of_ble_eq_true rfl) hl151 (fun _ h9 => h9) rfl dX8_startCalibration_18 ?_
    refine z_calli0 (wc := [(q0, .inr (2, [.ref q1, .int (u.2.1 11 7), .int (u.2.1 11 6)]))]) (wr := [(hm, .inr (7, [.ref p0, .ref c0, .ref n0, .ref b0, .ref e0, .ref f0, .ref l1, .ref l2, .ref l3, .ref l4, .ref l5, .int (u.2.1 11 2), .int (msk (u.2.2.2 1)), .long (u.1 9 0)])), (e0, .inr (4, [.ref g0, .ref q0, .ref e1, .ref e2, .ref e3, .ref e4, .ref e5, .ref e6, .ref e7, .int (u.2.1 11 3), .int (u.2.1 11 4), .int (u.2.1 11 5)]))]) (va_runV (As := []) (rest := []) ⟨hx, hb, hml, hown, hts⟩ (c_X2_isRunning l D k H.size q0 q1 (u.2.1 11 7) (u.2.1 11 6)) (cwV 0 hts gX8_startCalibration_X2_isRunning rfl rfl rfl (by decide +kernel) ⟨Nat.le_of_ble_eq_true rfl, Nat.le_of_ble_eq_true rfl⟩) (z_preV (wc := [(q0, .inr (2, [.ref q1, .int (u.2.1 11 7), .int (u.2.1 11 6)]))]) 2 2 hP hD hK [2] rfl rfl rfl rfl zb0 zp0) rfl rfl hl.1 rfl (lv_room (Nat.le_of_ble_eq_true rfl)) dX8_startCalibration_21 ⟨Nat.zero_le _, Nat.zero_le _⟩) hP hD hS hA [2] [0, 1] rfl rfl rfl (by decide) (fun w H locs hF hP hD hS => ?_)
    subst hF
    have hP : va_P D vwCl [(hm, .inr (7, [.ref p0, .ref c0, .ref n0, .ref b0, .ref e0, .ref f0, .ref l1, .ref l2, .ref l3, .ref l4, .ref l5, .int (u.2.1 11 2), .int (msk (u.2.2.2 1)), .long (u.1 9 0)])), (e0, .inr (4, [.ref g0, .ref q0, .ref e1, .ref e2, .ref e3, .ref e4, .ref e5, .ref e6, .ref e7, .int (u.2.1 11 3), .int (u.2.1 11 4), .int (u.2.1 11 5)])), (q0, .inr (2, [.ref q1, .int (u.2.1 11 7), .int (u.2.1 11 6)]))] H := hP
    have hD : va_D A [(hm, .inr (7, [.ref p0, .ref c0, .ref n0, .ref b0, .ref e0, .ref f0, .ref l1, .ref l2, .ref l3, .ref l4, .ref l5, .int (u.2.1 11 2), .int (msk (u.2.2.2 1)), .long (u.1 9 0)])), (e0, .inr (4, [.ref g0, .ref q0, .ref e1, .ref e2, .ref e3, .ref e4, .ref e5, .ref e6, .ref e7, .int (u.2.1 11 3), .int (u.2.1 11 4), .int (u.2.1 11 5)])), (q0, .inr (2, [.ref q1, .int (u.2.1 11 7), .int (u.2.1 11 6)]))] := hD
    refine lv_if_eq (tgt := 30) hx hb dX8_startCalibration_24 (by decide) (fun c => absurd c (by rw [hr3]; decide)) (fun c => ?_)
    refine lv_bipush (v := (-4)) hx hb dX8_startCalibration_27 (by decide) ?_
    have hP9 := hP.sub (ws' := [(hm, .inr (7, [.ref p0, .ref c0, .ref n0, .ref b0, .ref e0, .ref f0, .ref l1, .ref l2, .ref l3, .ref l4, .ref l5, .int (u.2.1 11 2), .int (msk (u.2.2.2 1)), .long (u.1 9 0)])), (e0, .inr (4, [.ref g0, .ref q0, .ref e1, .ref e2, .ref e3, .ref e4, .ref e5, .ref e6, .ref e7, .int (u.2.1 11 3), .int (u.2.1 11 4), .int (u.2.1 11 5)])), (q0, .inr (2, [.ref q1, .int (u.2.1 11 7), .int (u.2.1 11 6)]))]) [0, 1, 2] rfl
    have hD9 := hD.sub (ws' := [(hm, .inr (7, [.ref p0, .ref c0, .ref n0, .ref b0, .ref e0, .ref f0, .ref l1, .ref l2, .ref l3, .ref l4, .ref l5, .int (u.2.1 11 2), .int (msk (u.2.2.2 1)), .long (u.1 9 0)])), (e0, .inr (4, [.ref g0, .ref q0, .ref e1, .ref e2, .ref e3, .ref e4, .ref e5, .ref e6, .ref e7, .int (u.2.1 11 3), .int (u.2.1 11 4), .int (u.2.1 11 5)])), (q0, .inr (2, [.ref q1, .int (u.2.1 11 7), .int (u.2.1 11 6)]))]) [0, 1, 2] (by decide) rfl
    exact W.iret (v := (-4)) hx hb hr (fun t9 ht9 hW9 => ⟨⟨(-4), [(hm, .inr (7, [.ref p0, .ref c0, .ref n0, .ref b0, .ref e0, .ref f0, .ref l1, .ref l2, .ref l3, .ref l4, .ref l5, .int (u.2.1 11 2), .int (msk (u.2.2.2 1)), .long (u.1 9 0)])), (e0, .inr (4, [.ref g0, .ref q0, .ref e1, .ref e2, .ref e3, .ref e4, .ref e5, .ref e6, .ref e7, .int (u.2.1 11 3), .int (u.2.1 11 4), .int (u.2.1 11 5)])), (q0, .inr (2, [.ref q1, .int (u.2.1 11 7), .int (u.2.1 11 6)]))], rfl, ⟨rfl, rfl⟩, by rw [ht9]; exact hP9, hD9⟩, hS.F ht9⟩) hS.2.2 dX8_startCalibration_29
  · skip
    have c_1 := zb_e c_1
    first | exact absurd (c_1.symm.trans h0) (by decide)
set_option maxHeartbeats 4000000 in
set_option maxRecDepth 100000 in
theorem c_X8_calibrationLeft (l : Launch) (D : va_G) (k : Nat → ClassId) (sz : Nat) (hm p0 c0 n0 b0 e0 e1 e2 e3 e4 e5 e6 e7 g0 q0 q1 f0 l1 l2 l3 l4 l5 : Nat) (u : zS)  : Met l yX8_calibrationLeft wsX8_calibrationLeft ({ frames := 0, cells := 0, slots := 0, locals := 0 } : Room) (va_Pc [.ref hm] (zPre D k [(hm, .inr (7, [.ref p0, .ref c0, .ref n0, .ref b0, .ref e0, .ref f0, .ref l1, .ref l2, .ref l3, .ref l4, .ref l5, .int (u.2.1 11 2), .int (msk (u.2.2.2 1)), .long (u.1 9 0)])), (e0, .inr (4, [.ref g0, .ref q0, .ref e1, .ref e2, .ref e3, .ref e4, .ref e5, .ref e6, .ref e7, .int (u.2.1 11 3), .int (u.2.1 11 4), .int (u.2.1 11 5)])), (q0, .inr (2, [.ref q1, .int (u.2.1 11 7), .int (u.2.1 11 6)]))] sz zN)) (zQi D [(hm, .inr (7, [.ref p0, .ref c0, .ref n0, .ref b0, .ref e0, .ref f0, .ref l1, .ref l2, .ref l3, .ref l4, .ref l5, .int (u.2.1 11 2), .int (msk (u.2.2.2 1)), .long (u.1 9 0)])), (e0, .inr (4, [.ref g0, .ref q0, .ref e1, .ref e2, .ref e3, .ref e4, .ref e5, .ref e6, .ref e7, .int (u.2.1 11 3), .int (u.2.1 11 4), .int (u.2.1 11 5)])), (q0, .inr (2, [.ref q1, .int (u.2.1 11 7), .int (u.2.1 11 6)]))] sz (u.2.1 11 6) (fun w : va_W => w = [(hm, .inr (7, [.ref p0, .ref c0, .ref n0, .ref b0, .ref e0, .ref f0, .ref l1, .ref l2, .ref l3, .ref l4, .ref l5, .int (u.2.1 11 2), .int (msk (u.2.2.2 1)), .long (u.1 9 0)])), (e0, .inr (4, [.ref g0, .ref q0, .ref e1, .ref e2, .ref e3, .ref e4, .ref e5, .ref e6, .ref e7, .int (u.2.1 11 3), .int (u.2.1 11 4), .int (u.2.1 11 5)])), (q0, .inr (2, [.ref q1, .int (u.2.1 11 7), .int (u.2.1 11 6)]))])) 0 0 (va_A [(hm, .inr (7, [.ref p0, .ref c0, .ref n0, .ref b0, .ref e0, .ref f0, .ref l1, .ref l2, .ref l3, .ref l4, .ref l5, .int (u.2.1 11 2), .int (msk (u.2.2.2 1)), .long (u.1 9 0)])), (e0, .inr (4, [.ref g0, .ref q0, .ref e1, .ref e2, .ref e3, .ref e4, .ref e5, .ref e6, .ref e7, .int (u.2.1 11 3), .int (u.2.1 11 4), .int (u.2.1 11 5)])), (q0, .inr (2, [.ref q1, .int (u.2.1 11 7), .int (u.2.1 11 6)]))] sz) := by
  refine Met.ofW (cc := cX8_calibrationLeft) (maxL := 1) (ret := (some .int)) (by decide) rfl ?_
  intro p e s m args below meth c s₁ B hml hv
  obtain ⟨rfl, hsz, hP, hK, hD0, hE⟩ := hv
  have hx := B.exec
  have hb := B.bytes
  have hr := B.returns
  have hts := atoms_spec (ws := wsX8_calibrationLeft) B.pre
  have hown : s.vm.findClass RX8 = some m.cls := findClass_of_methodNamed B.named
  have hlocks := B.notSynchronized
  subst hsz
  have hD := hD0.self (sz := s.heap.size)
  delta zQi zB
  generalize hAe : va_A [(hm, .inr (7, [.ref p0, .ref c0, .ref n0, .ref b0, .ref e0, .ref f0, .ref l1, .ref l2, .ref l3, .ref l4, .ref l5, .int (u.2.1 11 2), .int (msk (u.2.2.2 1)), .long (u.1 9 0)])), (e0, .inr (4, [.ref g0, .ref q0, .ref e1, .ref e2, .ref e3, .ref e4, .ref e5, .ref e6, .ref e7, .int (u.2.1 11 3), .int (u.2.1 11 4), .int (u.2.1 11 5)])), (q0, .inr (2, [.ref q1, .int (u.2.1 11 7), .int (u.2.1 11 6)]))] s.heap.size = A at hD hE ⊢
  have hA : ∀ q : Nat, s.heap.size ≤ q → A q := fun q h => by rw [← hAe]; exact Or.inr h
  have hS : va_S A s.heap s.heap [] := va_S.rf
  have hl := lv_entry [.ref hm] (n := 1) (Nat.le_of_ble_eq_true rfl)
  rw [lg_entry_eq]
  generalize (lg_sl [.ref hm] ++ List.replicate (1 - (lg_sl [.ref hm]).length) Slot.unset).toArray = ls at hl ⊢
  have hl : lv_has ls 1 [(0, .ref hm)] := hl
  have hl40 : (Cond.fieldLink RX8 40 "InertialReference" "estimator" "LInertialReference$Estimator;").before #[Value.ref hm] s = true := zw hts 1 rfl
  have hinX8 : ∀ w ∈ u_ws RX8 TX8 14, w ∈ wsX8_calibrationLeft := fun w h => List.mem_cons_of_mem _ (List.mem_append_left _ (List.mem_append_left _ (List.mem_append_right _ h)))
  have hl151 : (Cond.fieldLinkNest RX8 151 "InertialReference$Estimator" "calibration" "LInertialReference$Calibration;" "InertialReference").before #[Value.ref hm] s = true := va_Nw.use rfl (zn_RX8_151 hE)
  have hinX4 : ∀ w ∈ u_ws RX4 TX4 12, w ∈ wsX8_calibrationLeft := fun w h => List.mem_cons_of_mem _ (List.mem_append_left _ (List.mem_append_right _ h))
  have hl165 : (Cond.fieldLinkNest RX8 165 "InertialReference$Calibration" "ticksLeft" "I" "InertialReference").before #[Value.ref hm] s = true := va_Nw.use rfl (zn_RX8_165 hE)
  have hinX2 : ∀ w ∈ u_ws RX2 TX2 3, w ∈ wsX8_calibrationLeft := fun w h => List.mem_cons_of_mem _ (List.mem_append_right _ h)
  refine lv_aload_n hx hb dX8_calibrationLeft_0 rfl (lv_at hl 0 rfl) ?_
  refine va_get (D := D) (ci := 7) (v := .ref e0) (C := RX8) (T := TX8) (N := 14) hx hb hts hinX8 hown hK hP 0 rfl rfl 4 (Nat.le_of_ble_eq_true rfl) hl40 (fun _ h9 => h9) rfl dX8_calibrationLeft_1 ?_
  refine va_getN (D := D) (ci := 4) (v := .ref q0) (C := RX4) (T := TX4) (N := 12) hx hb hts hinX4 hown hK hP 1 rfl rfl 1 (Nat.le_of_ble_eq_true rfl) hl151 (fun _ h9 => h9) rfl dX8_calibrationLeft_4 ?_
  refine va_getN (D := D) (ci := 2) (v := .int (u.2.1 11 6)) (C := RX2) (T := TX2) (N := 3) hx hb hts hinX2 hown hK hP 2 rfl rfl 2 (Nat.le_of_ble_eq_true rfl) hl165 (fun _ h9 => h9) rfl dX8_calibrationLeft_7 ?_
  have hP9 := hP.sub (ws' := [(hm, .inr (7, [.ref p0, .ref c0, .ref n0, .ref b0, .ref e0, .ref f0, .ref l1, .ref l2, .ref l3, .ref l4, .ref l5, .int (u.2.1 11 2), .int (msk (u.2.2.2 1)), .long (u.1 9 0)])), (e0, .inr (4, [.ref g0, .ref q0, .ref e1, .ref e2, .ref e3, .ref e4, .ref e5, .ref e6, .ref e7, .int (u.2.1 11 3), .int (u.2.1 11 4), .int (u.2.1 11 5)])), (q0, .inr (2, [.ref q1, .int (u.2.1 11 7), .int (u.2.1 11 6)]))]) [0, 1, 2] rfl
  have hD9 := hD.sub (ws' := [(hm, .inr (7, [.ref p0, .ref c0, .ref n0, .ref b0, .ref e0, .ref f0, .ref l1, .ref l2, .ref l3, .ref l4, .ref l5, .int (u.2.1 11 2), .int (msk (u.2.2.2 1)), .long (u.1 9 0)])), (e0, .inr (4, [.ref g0, .ref q0, .ref e1, .ref e2, .ref e3, .ref e4, .ref e5, .ref e6, .ref e7, .int (u.2.1 11 3), .int (u.2.1 11 4), .int (u.2.1 11 5)])), (q0, .inr (2, [.ref q1, .int (u.2.1 11 7), .int (u.2.1 11 6)]))]) [0, 1, 2] (by decide) rfl
  exact W.iret (v := u.2.1 11 6) hx hb hr (fun t9 ht9 hW9 => ⟨⟨(u.2.1 11 6), [(hm, .inr (7, [.ref p0, .ref c0, .ref n0, .ref b0, .ref e0, .ref f0, .ref l1, .ref l2, .ref l3, .ref l4, .ref l5, .int (u.2.1 11 2), .int (msk (u.2.2.2 1)), .long (u.1 9 0)])), (e0, .inr (4, [.ref g0, .ref q0, .ref e1, .ref e2, .ref e3, .ref e4, .ref e5, .ref e6, .ref e7, .int (u.2.1 11 3), .int (u.2.1 11 4), .int (u.2.1 11 5)])), (q0, .inr (2, [.ref q1, .int (u.2.1 11 7), .int (u.2.1 11 6)]))], rfl, ⟨rfl, rfl⟩, by rw [ht9]; exact hP9, hD9⟩, hS.F ht9⟩) hS.2.2 dX8_calibrationLeft_10
set_option maxHeartbeats 4000000 in
set_option maxRecDepth 100000 in
theorem c_X8_setCompensation_ok (l : Launch) (D : va_G) (k : Nat → ClassId) (sz : Nat) (hm p0 c0 n0 b0 b1 b2 e0 f0 l1 l2 l3 l4 l5 : Nat) (u : zS) (i : Nat) (b v : Int32) (hi : i < 3) (h0 : zin (nI i) 0 2 = true) (h1 : zin b (-4) 8 = true) (h2 : zin v (-1000000) 1000000 = true) : Met l yX8_setCompensation wsX8_setCompensation ({ frames := 3, cells := 0, slots := 0, locals := 65 } : Room) (va_Pc [.ref hm, .int (nI i), .int b, .int v] (zPre D k [(hm, .inr (7, [.ref p0, .ref c0, .ref n0, .ref b0, .ref e0, .ref f0, .ref l1, .ref l2, .ref l3, .ref l4, .ref l5, .int (u.2.1 11 2), .int (msk (u.2.2.2 1)), .long (u.1 9 0)])), (b0, .inr (3, [.ref b1, .ref b2, .int (nI (cntB (u.2.2.2 0) 39))])), (b1, zaI k 39 (u.2.1 9)), (b2, zaZ k 39 (zk (u.2.2.2 0)))] sz zN)) (zQi D [(hm, .inr (7, [.ref p0, .ref c0, .ref n0, .ref b0, .ref e0, .ref f0, .ref l1, .ref l2, .ref l3, .ref l4, .ref l5, .int (u.2.1 11 2), .int (msk (u.2.2.2 1)), .long (u.1 9 0)])), (b0, .inr (3, [.ref b1, .ref b2, .int (nI (cntB (u.2.2.2 0) 39))])), (b1, zaI k 39 (u.2.1 9)), (b2, zaZ k 39 (zk (u.2.2.2 0)))] sz (nI (cntB (va_up (u.2.2.2 0) (i * 13 + cb b) true) 39)) (fun w : va_W => w = [(hm, .inr (7, [.ref p0, .ref c0, .ref n0, .ref b0, .ref e0, .ref f0, .ref l1, .ref l2, .ref l3, .ref l4, .ref l5, .int (u.2.1 11 2), .int (msk (u.2.2.2 1)), .long (u.1 9 0)])), (b0, .inr (3, [.ref b1, .ref b2, .int (nI (cntB (va_up (u.2.2.2 0) (i * 13 + cb b) true) 39))])), (b1, zaI k 39 (upd (u.2.1 9) (i * 13 + cb b) v)), (b2, zaZ k 39 (zk (va_up (u.2.2.2 0) (i * 13 + cb b) true)))])) 0 0 (va_A [(hm, .inr (7, [.ref p0, .ref c0, .ref n0, .ref b0, .ref e0, .ref f0, .ref l1, .ref l2, .ref l3, .ref l4, .ref l5, .int (u.2.1 11 2), .int (msk (u.2.2.2 1)), .long (u.1 9 0)])), (b0, .inr (3, [.ref b1, .ref b2, .int (nI (cntB (u.2.2.2 0) 39))])), (b1, zaI k 39 (u.2.1 9)), (b2, zaZ k 39 (zk (u.2.2.2 0)))] sz) := by
  refine Met.ofW (cc := cX8_setCompensation) (maxL := 4) (ret := (some .int)) (by decide) rfl ?_
  intro p e s m args below meth c s₁ B hml hv
  obtain ⟨rfl, hsz, hP, hK, hD0, hE⟩ := hv
  have hx := B.exec
  have hb := B.bytes
  have hr := B.returns
  have hts := atoms_spec (ws := wsX8_setCompensation) B.pre
  have hown : s.vm.findClass RX8 = some m.cls := findClass_of_methodNamed B.named
  have hlocks := B.notSynchronized
  subst hsz
  have hD := hD0.self (sz := s.heap.size)
  delta zQi zB
  generalize hAe : va_A [(hm, .inr (7, [.ref p0, .ref c0, .ref n0, .ref b0, .ref e0, .ref f0, .ref l1, .ref l2, .ref l3, .ref l4, .ref l5, .int (u.2.1 11 2), .int (msk (u.2.2.2 1)), .long (u.1 9 0)])), (b0, .inr (3, [.ref b1, .ref b2, .int (nI (cntB (u.2.2.2 0) 39))])), (b1, zaI k 39 (u.2.1 9)), (b2, zaZ k 39 (zk (u.2.2.2 0)))] s.heap.size = A at hD hE ⊢
  have hA : ∀ q : Nat, s.heap.size ≤ q → A q := fun q h => by rw [← hAe]; exact Or.inr h
  have hS : va_S A s.heap s.heap [] := va_S.rf
  have hl := lv_entry [.ref hm, .int (nI i), .int b, .int v] (n := 4) (Nat.le_of_ble_eq_true rfl)
  rw [lg_entry_eq]
  generalize (lg_sl [.ref hm, .int (nI i), .int b, .int v] ++ List.replicate (4 - (lg_sl [.ref hm, .int (nI i), .int b, .int v]).length) Slot.unset).toArray = ls at hl ⊢
  have hl : lv_has ls 4 [(0, .ref hm), (1, .int (nI i)), (2, .int b), (3, .int v)] := hl
  have hl173 : (Cond.constantLong RX8 173 (1000000)).before #[Value.ref hm, Value.int (nI i), Value.int b, Value.int v] s = true := zw hts 1 rfl
  have hl33 : (Cond.fieldLink RX8 33 "InertialReference" "table" "LInertialReference$CompensationTable;").before #[Value.ref hm, Value.int (nI i), Value.int b, Value.int v] s = true := zw hts 2 rfl
  have hinX8 : ∀ w ∈ u_ws RX8 TX8 14, w ∈ wsX8_setCompensation := fun w h => List.mem_cons_of_mem _ (List.mem_append_left _ (List.mem_append_right _ h))
  have hl179 : (Cond.fieldLinkNest RX8 179 "InertialReference$CompensationTable" "size" "I" "InertialReference").before #[Value.ref hm, Value.int (nI i), Value.int b, Value.int v] s = true := va_Nw.use rfl (zn_RX8_179 hE)
  have hinX3 : ∀ w ∈ u_ws RX3 TX3 3, w ∈ wsX8_setCompensation := fun w h => List.mem_cons_of_mem _ (List.mem_append_right _ h)
  refine lv_iload_n hx hb dX8_setCompensation_0 rfl (lv_at hl 1 rfl) ?_
  refine z_calli0 (wc := []) (wr := [(hm, .inr (7, [.ref p0, .ref c0, .ref n0, .ref b0, .ref e0, .ref f0, .ref l1, .ref l2, .ref l3, .ref l4, .ref l5, .int (u.2.1 11 2), .int (msk (u.2.2.2 1)), .long (u.1 9 0)])), (b0, .inr (3, [.ref b1, .ref b2, .int (nI (cntB (u.2.2.2 0) 39))])), (b1, zaI k 39 (u.2.1 9)), (b2, zaZ k 39 (zk (u.2.2.2 0)))]) (va_runS (As := [.int (nI i)]) (rest := []) ⟨hx, hb, hml, hown, hts⟩ (c_X5_isAxis l D k s.heap.size (nI i)) (va_cwS 1 hts gX8_setCompensation_X5_isAxis rfl rfl rfl (by decide +kernel) ⟨Nat.le_of_ble_eq_true rfl, Nat.le_of_ble_eq_true rfl⟩) (z_preS (wc := []) hP hD hK [] rfl rfl zb0 zp0) rfl rfl hl.1 rfl (lv_room (Nat.le_of_ble_eq_true rfl)) dX8_setCompensation_1 ⟨Nat.zero_le _, Nat.zero_le _⟩) hP hD hS hA [] [0, 1, 2, 3] rfl rfl rfl (by decide) (fun w H locs hF hP hD hS => ?_)
  subst hF
  have hP : va_P D vwCl [(hm, .inr (7, [.ref p0, .ref c0, .ref n0, .ref b0, .ref e0, .ref f0, .ref l1, .ref l2, .ref l3, .ref l4, .ref l5, .int (u.2.1 11 2), .int (msk (u.2.2.2 1)), .long (u.1 9 0)])), (b0, .inr (3, [.ref b1, .ref b2, .int (nI (cntB (u.2.2.2 0) 39))])), (b1, zaI k 39 (u.2.1 9)), (b2, zaZ k 39 (zk (u.2.2.2 0)))] H := hP
  have hD : va_D A [(hm, .inr (7, [.ref p0, .ref c0, .ref n0, .ref b0, .ref e0, .ref f0, .ref l1, .ref l2, .ref l3, .ref l4, .ref l5, .int (u.2.1 11 2), .int (msk (u.2.2.2 1)), .long (u.1 9 0)])), (b0, .inr (3, [.ref b1, .ref b2, .int (nI (cntB (u.2.2.2 0) 39))])), (b1, zaI k 39 (u.2.1 9)), (b2, zaZ k 39 (zk (u.2.2.2 0)))] := hD
  refine lv_if_eq (tgt := 25) hx hb dX8_setCompensation_4 (by decide) (fun c_1 => ?_) (fun c_1 => ?_)
  · skip
    have c_1 := zb_e c_1
    first | exact absurd (c_1.symm.trans h0) (by decide) | exact absurd (c_1.symm.trans h1) (by decide) | exact absurd (c_1.symm.trans h2) (by decide)
  · skip
    have c_1 := zb_n c_1
    refine lv_iload_n hx hb dX8_setCompensation_7 rfl (lv_at hl 2 rfl) ?_
    refine z_calli0 (wc := []) (wr := [(hm, .inr (7, [.ref p0, .ref c0, .ref n0, .ref b0, .ref e0, .ref f0, .ref l1, .ref l2, .ref l3, .ref l4, .ref l5, .int (u.2.1 11 2), .int (msk (u.2.2.2 1)), .long (u.1 9 0)])), (b0, .inr (3, [.ref b1, .ref b2, .int (nI (cntB (u.2.2.2 0) 39))])), (b1, zaI k 39 (u.2.1 9)), (b2, zaZ k 39 (zk (u.2.2.2 0)))]) (va_runS (As := [.int b]) (rest := []) ⟨hx, hb, hml, hown, hts⟩ (c_X3_hasBin l D k H.size b) (va_cwS 1 hts gX8_setCompensation_X3_hasBin rfl rfl rfl (by decide +kernel) ⟨Nat.le_of_ble_eq_true rfl, Nat.le_of_ble_eq_true rfl⟩) (z_preS (wc := []) hP hD hK [] rfl rfl zb0 zp0) rfl rfl hl.1 rfl (lv_room (Nat.le_of_ble_eq_true rfl)) dX8_setCompensation_8 ⟨Nat.zero_le _, Nat.zero_le _⟩) hP hD hS hA [] [0, 1, 2, 3] rfl rfl rfl (by decide) (fun w H locs hF hP hD hS => ?_)
    subst hF
    have hP : va_P D vwCl [(hm, .inr (7, [.ref p0, .ref c0, .ref n0, .ref b0, .ref e0, .ref f0, .ref l1, .ref l2, .ref l3, .ref l4, .ref l5, .int (u.2.1 11 2), .int (msk (u.2.2.2 1)), .long (u.1 9 0)])), (b0, .inr (3, [.ref b1, .ref b2, .int (nI (cntB (u.2.2.2 0) 39))])), (b1, zaI k 39 (u.2.1 9)), (b2, zaZ k 39 (zk (u.2.2.2 0)))] H := hP
    have hD : va_D A [(hm, .inr (7, [.ref p0, .ref c0, .ref n0, .ref b0, .ref e0, .ref f0, .ref l1, .ref l2, .ref l3, .ref l4, .ref l5, .int (u.2.1 11 2), .int (msk (u.2.2.2 1)), .long (u.1 9 0)])), (b0, .inr (3, [.ref b1, .ref b2, .int (nI (cntB (u.2.2.2 0) 39))])), (b1, zaI k 39 (u.2.1 9)), (b2, zaZ k 39 (zk (u.2.2.2 0)))] := hD
    refine lv_if_eq (tgt := 25) hx hb dX8_setCompensation_11 (by decide) (fun c_2 => ?_) (fun c_2 => ?_)
    · skip
      have c_2 := zb_e c_2
      first | exact absurd (c_2.symm.trans h0) (by decide) | exact absurd (c_2.symm.trans h1) (by decide) | exact absurd (c_2.symm.trans h2) (by decide)
    · skip
      have c_2 := zb_n c_2
      refine lv_iload_n hx hb dX8_setCompensation_14 rfl (lv_at hl 3 rfl) ?_
      refine lv_i2l (v := v.toInt64) hx hb dX8_setCompensation_15 rfl ?_
      refine lv_ldc2 hx hb hown hl173 dX8_setCompensation_16 ?_
      refine z_calli0 (wc := []) (wr := [(hm, .inr (7, [.ref p0, .ref c0, .ref n0, .ref b0, .ref e0, .ref f0, .ref l1, .ref l2, .ref l3, .ref l4, .ref l5, .int (u.2.1 11 2), .int (msk (u.2.2.2 1)), .long (u.1 9 0)])), (b0, .inr (3, [.ref b1, .ref b2, .int (nI (cntB (u.2.2.2 0) 39))])), (b1, zaI k 39 (u.2.1 9)), (b2, zaZ k 39 (zk (u.2.2.2 0)))]) (va_runS (As := [.long v.toInt64, .long 1000000]) (rest := []) ⟨hx, hb, hml, hown, hts⟩ (c_X5_isWithin l D k H.size v.toInt64 1000000) (va_cwS 2 hts gX8_setCompensation_X5_isWithin rfl rfl rfl (by decide +kernel) ⟨Nat.le_of_ble_eq_true rfl, Nat.le_of_ble_eq_true rfl⟩) (z_preS (wc := []) hP hD hK [] rfl rfl zb0 zp0) rfl rfl hl.1 rfl (lv_room (Nat.le_of_ble_eq_true rfl)) dX8_setCompensation_19 ⟨Nat.zero_le _, Nat.zero_le _⟩) hP hD hS hA [] [0, 1, 2, 3] rfl rfl rfl (by decide) (fun w H locs hF hP hD hS => ?_)
      subst hF
      have hP : va_P D vwCl [(hm, .inr (7, [.ref p0, .ref c0, .ref n0, .ref b0, .ref e0, .ref f0, .ref l1, .ref l2, .ref l3, .ref l4, .ref l5, .int (u.2.1 11 2), .int (msk (u.2.2.2 1)), .long (u.1 9 0)])), (b0, .inr (3, [.ref b1, .ref b2, .int (nI (cntB (u.2.2.2 0) 39))])), (b1, zaI k 39 (u.2.1 9)), (b2, zaZ k 39 (zk (u.2.2.2 0)))] H := hP
      have hD : va_D A [(hm, .inr (7, [.ref p0, .ref c0, .ref n0, .ref b0, .ref e0, .ref f0, .ref l1, .ref l2, .ref l3, .ref l4, .ref l5, .int (u.2.1 11 2), .int (msk (u.2.2.2 1)), .long (u.1 9 0)])), (b0, .inr (3, [.ref b1, .ref b2, .int (nI (cntB (u.2.2.2 0) 39))])), (b1, zaI k 39 (u.2.1 9)), (b2, zaZ k 39 (zk (u.2.2.2 0)))] := hD
      refine W.eq (g2 := F0 m 22 ls (.int (zb (zin v (-1000000) 1000000)) :: [])) (by rw [zLi v (-1000000) 1000000 (A := (-1000000)) (B := 1000000) (by decide) (by decide)]) ?_
      refine lv_if_ne (tgt := 28) hx hb dX8_setCompensation_22 (by decide) (fun c_3 => ?_) (fun c_3 => ?_)
      · skip
        have c_3 := zb_n c_3
        refine lv_aload_n hx hb dX8_setCompensation_28 rfl (lv_at hl 0 rfl) ?_
        refine va_get (D := D) (ci := 7) (v := .ref b0) (C := RX8) (T := TX8) (N := 14) hx hb hts hinX8 hown hK hP 0 rfl rfl 3 (Nat.le_of_ble_eq_true rfl) hl33 (fun _ h9 => h9) rfl dX8_setCompensation_29 ?_
        refine lv_iload_n hx hb dX8_setCompensation_32 rfl (lv_at hl 1 rfl) ?_
        refine lv_iload_n hx hb dX8_setCompensation_33 rfl (lv_at hl 2 rfl) ?_
        refine lv_iload_n hx hb dX8_setCompensation_34 rfl (lv_at hl 3 rfl) ?_
        refine z_callv0 (wc := [(b0, .inr (3, [.ref b1, .ref b2, .int (nI (cntB (u.2.2.2 0) 39))])), (b1, zaI k 39 (u.2.1 9)), (b2, zaZ k 39 (zk (u.2.2.2 0)))]) (wr := [(hm, .inr (7, [.ref p0, .ref c0, .ref n0, .ref b0, .ref e0, .ref f0, .ref l1, .ref l2, .ref l3, .ref l4, .ref l5, .int (u.2.1 11 2), .int (msk (u.2.2.2 1)), .long (u.1 9 0)]))]) (va_runV (As := [.int (nI i), .int b, .int v]) (rest := []) ⟨hx, hb, hml, hown, hts⟩ (c_X3_put l D k H.size b0 b1 b2 (u.2.1 9) (u.2.2.2 0) i b v hi h1) (cwV 3 hts gX8_setCompensation_X3_put rfl rfl rfl (by decide +kernel) ⟨Nat.le_of_ble_eq_true rfl, Nat.le_of_ble_eq_true rfl⟩) (z_preV (wc := [(b0, .inr (3, [.ref b1, .ref b2, .int (nI (cntB (u.2.2.2 0) 39))])), (b1, zaI k 39 (u.2.1 9)), (b2, zaZ k 39 (zk (u.2.2.2 0)))]) 1 3 hP hD hK [1, 2, 3] rfl rfl rfl rfl zb0 zp0) rfl rfl hl.1 rfl (lv_room (Nat.le_of_ble_eq_true rfl)) dX8_setCompensation_35 ⟨Nat.zero_le _, Nat.zero_le _⟩) hP hD hS hA [1, 2, 3] [0] rfl rfl rfl (by decide) (fun w H locs hF hP hD hS => ?_)
        subst hF
        have hP : va_P D vwCl [(hm, .inr (7, [.ref p0, .ref c0, .ref n0, .ref b0, .ref e0, .ref f0, .ref l1, .ref l2, .ref l3, .ref l4, .ref l5, .int (u.2.1 11 2), .int (msk (u.2.2.2 1)), .long (u.1 9 0)])), (b0, .inr (3, [.ref b1, .ref b2, .int (nI (cntB (va_up (u.2.2.2 0) (i * 13 + cb b) true) 39))])), (b1, zaI k 39 (upd (u.2.1 9) (i * 13 + cb b) v)), (b2, zaZ k 39 (zk (va_up (u.2.2.2 0) (i * 13 + cb b) true)))] H := hP
        have hD : va_D A [(hm, .inr (7, [.ref p0, .ref c0, .ref n0, .ref b0, .ref e0, .ref f0, .ref l1, .ref l2, .ref l3, .ref l4, .ref l5, .int (u.2.1 11 2), .int (msk (u.2.2.2 1)), .long (u.1 9 0)])), (b0, .inr (3, [.ref b1, .ref b2, .int (nI (cntB (va_up (u.2.2.2 0) (i * 13 + cb b) true) 39))])), (b1, zaI k 39 (upd (u.2.1 9) (i * 13 + cb b) v)), (b2, zaZ k 39 (zk (va_up (u.2.2.2 0) (i * 13 + cb b) true)))] := hD
        refine lv_aload_n hx hb dX8_setCompensation_38 rfl (lv_at hl 0 rfl) ?_
        refine va_get (D := D) (ci := 7) (v := .ref b0) (C := RX8) (T := TX8) (N := 14) hx hb hts hinX8 hown hK hP 0 rfl rfl 3 (Nat.le_of_ble_eq_true rfl) hl33 (fun _ h9 => h9) rfl dX8_setCompensation_39 ?_
        refine va_getN (D := D) (ci := 3) (v := .int (nI (cntB (va_up (u.2.2.2 0) (i * 13 + cb b) true) 39))) (C := RX3) (T := TX3) (N := 3) hx hb hts hinX3 hown hK hP 1 rfl rfl 2 (Nat.le_of_ble_eq_true rfl) hl179 (fun _ h9 => h9) rfl dX8_setCompensation_42 ?_
        have hP9 := hP.sub (ws' := [(hm, .inr (7, [.ref p0, .ref c0, .ref n0, .ref b0, .ref e0, .ref f0, .ref l1, .ref l2, .ref l3, .ref l4, .ref l5, .int (u.2.1 11 2), .int (msk (u.2.2.2 1)), .long (u.1 9 0)])), (b0, .inr (3, [.ref b1, .ref b2, .int (nI (cntB (va_up (u.2.2.2 0) (i * 13 + cb b) true) 39))])), (b1, zaI k 39 (upd (u.2.1 9) (i * 13 + cb b) v)), (b2, zaZ k 39 (zk (va_up (u.2.2.2 0) (i * 13 + cb b) true)))]) [0, 1, 2, 3] rfl
        have hD9 := hD.sub (ws' := [(hm, .inr (7, [.ref p0, .ref c0, .ref n0, .ref b0, .ref e0, .ref f0, .ref l1, .ref l2, .ref l3, .ref l4, .ref l5, .int (u.2.1 11 2), .int (msk (u.2.2.2 1)), .long (u.1 9 0)])), (b0, .inr (3, [.ref b1, .ref b2, .int (nI (cntB (va_up (u.2.2.2 0) (i * 13 + cb b) true) 39))])), (b1, zaI k 39 (upd (u.2.1 9) (i * 13 + cb b) v)), (b2, zaZ k 39 (zk (va_up (u.2.2.2 0) (i * 13 + cb b) true)))]) [0, 1, 2, 3] (by decide) rfl
        exact W.iret (v := nI (cntB (va_up (u.2.2.2 0) (i * 13 + cb b) true) 39)) hx hb hr (fun t9 ht9 hW9 => ⟨⟨(nI (cntB (va_up (u.2.2.2 0) (i * 13 + cb b) true) 39)), [(hm, .inr (7, [.ref p0, .ref c0, .ref n0, .ref b0, .ref e0, .ref f0, .ref l1, .ref l2, .ref l3, .ref l4, .ref l5, .int (u.2.1 11 2), .int (msk (u.2.2.2 1)), .long (u.1 9 0)])), (b0, .inr (3, [.ref b1, .ref b2, .int (nI (cntB (va_up (u.2.2.2 0) (i * 13 + cb b) true) 39))])), (b1, zaI k 39 (upd (u.2.1 9) (i * 13 + cb b) v)), (b2, zaZ k 39 (zk (va_up (u.2.2.2 0) (i * 13 + cb b) true)))], rfl, ⟨rfl, rfl⟩, by rw [ht9]; exact hP9, hD9⟩, hS.F ht9⟩) hS.2.2 dX8_setCompensation_45
      · skip
        have c_3 := zb_e c_3
        first | exact absurd (c_3.symm.trans h0) (by decide) | exact absurd (c_3.symm.trans h1) (by decide) | exact absurd (c_3.symm.trans h2) (by decide)
set_option maxHeartbeats 4000000 in
set_option maxRecDepth 100000 in
theorem c_X8_setCompensation_no (l : Launch) (D : va_G) (k : Nat → ClassId) (sz : Nat) (hm p0 c0 n0 b0 e0 f0 l1 l2 l3 l4 l5 : Nat) (u : zS) (x b v : Int32) (hno : (zin x 0 2 && (zin b (-4) 8 && zin v (-1000000) 1000000)) = false) : Met l yX8_setCompensation wsX8_setCompensation ({ frames := 1, cells := 0, slots := 0, locals := 23 } : Room) (va_Pc [.ref hm, .int x, .int b, .int v] (zPre D k [(hm, .inr (7, [.ref p0, .ref c0, .ref n0, .ref b0, .ref e0, .ref f0, .ref l1, .ref l2, .ref l3, .ref l4, .ref l5, .int (u.2.1 11 2), .int (msk (u.2.2.2 1)), .long (u.1 9 0)]))] sz zX0)) (zQi D [(hm, .inr (7, [.ref p0, .ref c0, .ref n0, .ref b0, .ref e0, .ref f0, .ref l1, .ref l2, .ref l3, .ref l4, .ref l5, .int (u.2.1 11 2), .int (msk (u.2.2.2 1)), .long (u.1 9 0)]))] sz (-2) (fun w : va_W => w = [(hm, .inr (7, [.ref p0, .ref c0, .ref n0, .ref b0, .ref e0, .ref f0, .ref l1, .ref l2, .ref l3, .ref l4, .ref l5, .int (u.2.1 11 2), .int (msk (u.2.2.2 1)), .long (u.1 9 0)]))])) 0 0 (va_A [(hm, .inr (7, [.ref p0, .ref c0, .ref n0, .ref b0, .ref e0, .ref f0, .ref l1, .ref l2, .ref l3, .ref l4, .ref l5, .int (u.2.1 11 2), .int (msk (u.2.2.2 1)), .long (u.1 9 0)]))] sz) := by
  refine Met.ofW (cc := cX8_setCompensation) (maxL := 4) (ret := (some .int)) (by decide) rfl ?_
  intro p e s m args below meth c s₁ B hml hv
  obtain ⟨rfl, hsz, hP, hK, hD0, hE⟩ := hv
  have hx := B.exec
  have hb := B.bytes
  have hr := B.returns
  have hts := atoms_spec (ws := wsX8_setCompensation) B.pre
  have hown : s.vm.findClass RX8 = some m.cls := findClass_of_methodNamed B.named
  have hlocks := B.notSynchronized
  subst hsz
  have hD := hD0.self (sz := s.heap.size)
  delta zQi zB
  generalize hAe : va_A [(hm, .inr (7, [.ref p0, .ref c0, .ref n0, .ref b0, .ref e0, .ref f0, .ref l1, .ref l2, .ref l3, .ref l4, .ref l5, .int (u.2.1 11 2), .int (msk (u.2.2.2 1)), .long (u.1 9 0)]))] s.heap.size = A at hD hE ⊢
  have hA : ∀ q : Nat, s.heap.size ≤ q → A q := fun q h => by rw [← hAe]; exact Or.inr h
  have hS : va_S A s.heap s.heap [] := va_S.rf
  have hl := lv_entry [.ref hm, .int x, .int b, .int v] (n := 4) (Nat.le_of_ble_eq_true rfl)
  rw [lg_entry_eq]
  generalize (lg_sl [.ref hm, .int x, .int b, .int v] ++ List.replicate (4 - (lg_sl [.ref hm, .int x, .int b, .int v]).length) Slot.unset).toArray = ls at hl ⊢
  have hl : lv_has ls 4 [(0, .ref hm), (1, .int x), (2, .int b), (3, .int v)] := hl
  have hl173 : (Cond.constantLong RX8 173 (1000000)).before #[Value.ref hm, Value.int x, Value.int b, Value.int v] s = true := zw hts 1 rfl
  refine lv_iload_n hx hb dX8_setCompensation_0 rfl (lv_at hl 1 rfl) ?_
  refine z_calli0 (wc := []) (wr := [(hm, .inr (7, [.ref p0, .ref c0, .ref n0, .ref b0, .ref e0, .ref f0, .ref l1, .ref l2, .ref l3, .ref l4, .ref l5, .int (u.2.1 11 2), .int (msk (u.2.2.2 1)), .long (u.1 9 0)]))]) (va_runS (As := [.int x]) (rest := []) ⟨hx, hb, hml, hown, hts⟩ (c_X5_isAxis l D k s.heap.size x) (va_cwS 1 hts gX8_setCompensation_X5_isAxis rfl rfl rfl (by decide +kernel) ⟨Nat.le_of_ble_eq_true rfl, Nat.le_of_ble_eq_true rfl⟩) (z_preS (wc := []) hP hD hK [] rfl rfl zb0 zp0) rfl rfl hl.1 rfl (lv_room (Nat.le_of_ble_eq_true rfl)) dX8_setCompensation_1 ⟨Nat.zero_le _, Nat.zero_le _⟩) hP hD hS hA [] [0] rfl rfl rfl (by decide) (fun w H locs hF hP hD hS => ?_)
  subst hF
  have hP : va_P D vwCl [(hm, .inr (7, [.ref p0, .ref c0, .ref n0, .ref b0, .ref e0, .ref f0, .ref l1, .ref l2, .ref l3, .ref l4, .ref l5, .int (u.2.1 11 2), .int (msk (u.2.2.2 1)), .long (u.1 9 0)]))] H := hP
  have hD : va_D A [(hm, .inr (7, [.ref p0, .ref c0, .ref n0, .ref b0, .ref e0, .ref f0, .ref l1, .ref l2, .ref l3, .ref l4, .ref l5, .int (u.2.1 11 2), .int (msk (u.2.2.2 1)), .long (u.1 9 0)]))] := hD
  refine lv_if_eq (tgt := 25) hx hb dX8_setCompensation_4 (by decide) (fun c_1 => ?_) (fun c_1 => ?_)
  · skip
    have c_1 := zb_e c_1
    refine lv_bipush (v := (-2)) hx hb dX8_setCompensation_25 (by decide) ?_
    have hP9 := hP.sub (ws' := [(hm, .inr (7, [.ref p0, .ref c0, .ref n0, .ref b0, .ref e0, .ref f0, .ref l1, .ref l2, .ref l3, .ref l4, .ref l5, .int (u.2.1 11 2), .int (msk (u.2.2.2 1)), .long (u.1 9 0)]))]) [0] rfl
    have hD9 := hD.sub (ws' := [(hm, .inr (7, [.ref p0, .ref c0, .ref n0, .ref b0, .ref e0, .ref f0, .ref l1, .ref l2, .ref l3, .ref l4, .ref l5, .int (u.2.1 11 2), .int (msk (u.2.2.2 1)), .long (u.1 9 0)]))]) [0] (by decide) rfl
    exact W.iret (v := (-2)) hx hb hr (fun t9 ht9 hW9 => ⟨⟨(-2), [(hm, .inr (7, [.ref p0, .ref c0, .ref n0, .ref b0, .ref e0, .ref f0, .ref l1, .ref l2, .ref l3, .ref l4, .ref l5, .int (u.2.1 11 2), .int (msk (u.2.2.2 1)), .long (u.1 9 0)]))], rfl, ⟨rfl, rfl⟩, by rw [ht9]; exact hP9, hD9⟩, hS.F ht9⟩) hS.2.2 dX8_setCompensation_27
  · skip
    have c_1 := zb_n c_1
    refine lv_iload_n hx hb dX8_setCompensation_7 rfl (lv_at hl 2 rfl) ?_
    refine z_calli0 (wc := []) (wr := [(hm, .inr (7, [.ref p0, .ref c0, .ref n0, .ref b0, .ref e0, .ref f0, .ref l1, .ref l2, .ref l3, .ref l4, .ref l5, .int (u.2.1 11 2), .int (msk (u.2.2.2 1)), .long (u.1 9 0)]))]) (va_runS (As := [.int b]) (rest := []) ⟨hx, hb, hml, hown, hts⟩ (c_X3_hasBin l D k H.size b) (va_cwS 1 hts gX8_setCompensation_X3_hasBin rfl rfl rfl (by decide +kernel) ⟨Nat.le_of_ble_eq_true rfl, Nat.le_of_ble_eq_true rfl⟩) (z_preS (wc := []) hP hD hK [] rfl rfl zb0 zp0) rfl rfl hl.1 rfl (lv_room (Nat.le_of_ble_eq_true rfl)) dX8_setCompensation_8 ⟨Nat.zero_le _, Nat.zero_le _⟩) hP hD hS hA [] [0] rfl rfl rfl (by decide) (fun w H locs hF hP hD hS => ?_)
    subst hF
    have hP : va_P D vwCl [(hm, .inr (7, [.ref p0, .ref c0, .ref n0, .ref b0, .ref e0, .ref f0, .ref l1, .ref l2, .ref l3, .ref l4, .ref l5, .int (u.2.1 11 2), .int (msk (u.2.2.2 1)), .long (u.1 9 0)]))] H := hP
    have hD : va_D A [(hm, .inr (7, [.ref p0, .ref c0, .ref n0, .ref b0, .ref e0, .ref f0, .ref l1, .ref l2, .ref l3, .ref l4, .ref l5, .int (u.2.1 11 2), .int (msk (u.2.2.2 1)), .long (u.1 9 0)]))] := hD
    refine lv_if_eq (tgt := 25) hx hb dX8_setCompensation_11 (by decide) (fun c_2 => ?_) (fun c_2 => ?_)
    · skip
      have c_2 := zb_e c_2
      refine lv_bipush (v := (-2)) hx hb dX8_setCompensation_25 (by decide) ?_
      have hP9 := hP.sub (ws' := [(hm, .inr (7, [.ref p0, .ref c0, .ref n0, .ref b0, .ref e0, .ref f0, .ref l1, .ref l2, .ref l3, .ref l4, .ref l5, .int (u.2.1 11 2), .int (msk (u.2.2.2 1)), .long (u.1 9 0)]))]) [0] rfl
      have hD9 := hD.sub (ws' := [(hm, .inr (7, [.ref p0, .ref c0, .ref n0, .ref b0, .ref e0, .ref f0, .ref l1, .ref l2, .ref l3, .ref l4, .ref l5, .int (u.2.1 11 2), .int (msk (u.2.2.2 1)), .long (u.1 9 0)]))]) [0] (by decide) rfl
      exact W.iret (v := (-2)) hx hb hr (fun t9 ht9 hW9 => ⟨⟨(-2), [(hm, .inr (7, [.ref p0, .ref c0, .ref n0, .ref b0, .ref e0, .ref f0, .ref l1, .ref l2, .ref l3, .ref l4, .ref l5, .int (u.2.1 11 2), .int (msk (u.2.2.2 1)), .long (u.1 9 0)]))], rfl, ⟨rfl, rfl⟩, by rw [ht9]; exact hP9, hD9⟩, hS.F ht9⟩) hS.2.2 dX8_setCompensation_27
    · skip
      have c_2 := zb_n c_2
      refine lv_iload_n hx hb dX8_setCompensation_14 rfl (lv_at hl 3 rfl) ?_
      refine lv_i2l (v := v.toInt64) hx hb dX8_setCompensation_15 rfl ?_
      refine lv_ldc2 hx hb hown hl173 dX8_setCompensation_16 ?_
      refine z_calli0 (wc := []) (wr := [(hm, .inr (7, [.ref p0, .ref c0, .ref n0, .ref b0, .ref e0, .ref f0, .ref l1, .ref l2, .ref l3, .ref l4, .ref l5, .int (u.2.1 11 2), .int (msk (u.2.2.2 1)), .long (u.1 9 0)]))]) (va_runS (As := [.long v.toInt64, .long 1000000]) (rest := []) ⟨hx, hb, hml, hown, hts⟩ (c_X5_isWithin l D k H.size v.toInt64 1000000) (va_cwS 2 hts gX8_setCompensation_X5_isWithin rfl rfl rfl (by decide +kernel) ⟨Nat.le_of_ble_eq_true rfl, Nat.le_of_ble_eq_true rfl⟩) (z_preS (wc := []) hP hD hK [] rfl rfl zb0 zp0) rfl rfl hl.1 rfl (lv_room (Nat.le_of_ble_eq_true rfl)) dX8_setCompensation_19 ⟨Nat.zero_le _, Nat.zero_le _⟩) hP hD hS hA [] [0] rfl rfl rfl (by decide) (fun w H locs hF hP hD hS => ?_)
      subst hF
      have hP : va_P D vwCl [(hm, .inr (7, [.ref p0, .ref c0, .ref n0, .ref b0, .ref e0, .ref f0, .ref l1, .ref l2, .ref l3, .ref l4, .ref l5, .int (u.2.1 11 2), .int (msk (u.2.2.2 1)), .long (u.1 9 0)]))] H := hP
      have hD : va_D A [(hm, .inr (7, [.ref p0, .ref c0, .ref n0, .ref b0, .ref e0, .ref f0, .ref l1, .ref l2, .ref l3, .ref l4, .ref l5, .int (u.2.1 11 2), .int (msk (u.2.2.2 1)), .long (u.1 9 0)]))] := hD
      refine W.eq (g2 := F0 m 22 ls (.int (zb (zin v (-1000000) 1000000)) :: [])) (by rw [zLi v (-1000000) 1000000 (A := (-1000000)) (B := 1000000) (by decide) (by decide)]) ?_
      refine lv_if_ne (tgt := 28) hx hb dX8_setCompensation_22 (by decide) (fun c_3 => ?_) (fun c_3 => ?_)
      · skip
        have c_3 := zb_n c_3
        rw [c_1, c_2, c_3] at hno; exact absurd hno (by decide)
      · skip
        have c_3 := zb_e c_3
        refine lv_bipush (v := (-2)) hx hb dX8_setCompensation_25 (by decide) ?_
        have hP9 := hP.sub (ws' := [(hm, .inr (7, [.ref p0, .ref c0, .ref n0, .ref b0, .ref e0, .ref f0, .ref l1, .ref l2, .ref l3, .ref l4, .ref l5, .int (u.2.1 11 2), .int (msk (u.2.2.2 1)), .long (u.1 9 0)]))]) [0] rfl
        have hD9 := hD.sub (ws' := [(hm, .inr (7, [.ref p0, .ref c0, .ref n0, .ref b0, .ref e0, .ref f0, .ref l1, .ref l2, .ref l3, .ref l4, .ref l5, .int (u.2.1 11 2), .int (msk (u.2.2.2 1)), .long (u.1 9 0)]))]) [0] (by decide) rfl
        exact W.iret (v := (-2)) hx hb hr (fun t9 ht9 hW9 => ⟨⟨(-2), [(hm, .inr (7, [.ref p0, .ref c0, .ref n0, .ref b0, .ref e0, .ref f0, .ref l1, .ref l2, .ref l3, .ref l4, .ref l5, .int (u.2.1 11 2), .int (msk (u.2.2.2 1)), .long (u.1 9 0)]))], rfl, ⟨rfl, rfl⟩, by rw [ht9]; exact hP9, hD9⟩, hS.F ht9⟩) hS.2.2 dX8_setCompensation_27
set_option maxHeartbeats 4000000 in
set_option maxRecDepth 100000 in
theorem c_X8_learnCompensation_ok (l : Launch) (D : va_G) (k : Nat → ClassId) (sz : Nat) (hm p0 c0 n0 n1 n2 n3 n4 n5 n6 n7 n8 b0 b1 b2 e0 e1 e2 e3 e4 e5 e6 e7 g0 q0 q1 f0 l1 l2 l3 l4 l5 : Nat) (u : zS)  (hr3 : run0 (u.2.1 11 6) = false) (hb3 : zin (fdivI (u.2.1 11 0) 10) (-4) 8 = true) : Met l yX8_learnCompensation wsX8_learnCompensation ({ frames := 4, cells := 0, slots := 0, locals := 88 } : Room) (va_Pc [.ref hm] (zPre D k [(hm, .inr (7, [.ref p0, .ref c0, .ref n0, .ref b0, .ref e0, .ref f0, .ref l1, .ref l2, .ref l3, .ref l4, .ref l5, .int (u.2.1 11 2), .int (msk (u.2.2.2 1)), .long (u.1 9 0)])), (n0, .inr (6, [.ref n1, .ref n2, .ref n3, .ref n4, .ref n5, .ref n6, .ref n7, .ref n8, .int (u.2.1 11 0), .int (u.2.1 11 1)])), (b0, .inr (3, [.ref b1, .ref b2, .int (nI (cntB (u.2.2.2 0) 39))])), (b1, zaI k 39 (u.2.1 9)), (b2, zaZ k 39 (zk (u.2.2.2 0))), (e0, .inr (4, [.ref g0, .ref q0, .ref e1, .ref e2, .ref e3, .ref e4, .ref e5, .ref e6, .ref e7, .int (u.2.1 11 3), .int (u.2.1 11 4), .int (u.2.1 11 5)])), (e1, zaJ k 3 (u.1 4)), (q0, .inr (2, [.ref q1, .int (u.2.1 11 7), .int (u.2.1 11 6)]))] sz zN)) (zQi D [(hm, .inr (7, [.ref p0, .ref c0, .ref n0, .ref b0, .ref e0, .ref f0, .ref l1, .ref l2, .ref l3, .ref l4, .ref l5, .int (u.2.1 11 2), .int (msk (u.2.2.2 1)), .long (u.1 9 0)])), (n0, .inr (6, [.ref n1, .ref n2, .ref n3, .ref n4, .ref n5, .ref n6, .ref n7, .ref n8, .int (u.2.1 11 0), .int (u.2.1 11 1)])), (b0, .inr (3, [.ref b1, .ref b2, .int (nI (cntB (u.2.2.2 0) 39))])), (b1, zaI k 39 (u.2.1 9)), (b2, zaZ k 39 (zk (u.2.2.2 0))), (e0, .inr (4, [.ref g0, .ref q0, .ref e1, .ref e2, .ref e3, .ref e4, .ref e5, .ref e6, .ref e7, .int (u.2.1 11 3), .int (u.2.1 11 4), .int (u.2.1 11 5)])), (e1, zaJ k 3 (u.1 4)), (q0, .inr (2, [.ref q1, .int (u.2.1 11 7), .int (u.2.1 11 6)]))] sz (nI (cntB (absK (u.2.2.2 0) (cb (fdivI (u.2.1 11 0) 10)) 3) 39)) (fun w : va_W => w = [(hm, .inr (7, [.ref p0, .ref c0, .ref n0, .ref b0, .ref e0, .ref f0, .ref l1, .ref l2, .ref l3, .ref l4, .ref l5, .int (u.2.1 11 2), .int (msk (u.2.2.2 1)), .long (u.1 9 0)])), (n0, .inr (6, [.ref n1, .ref n2, .ref n3, .ref n4, .ref n5, .ref n6, .ref n7, .ref n8, .int (u.2.1 11 0), .int (u.2.1 11 1)])), (b0, .inr (3, [.ref b1, .ref b2, .int (nI (cntB (absK (u.2.2.2 0) (cb (fdivI (u.2.1 11 0) 10)) 3) 39))])), (b1, zaI k 39 (absV (u.2.1 9) (u.1 4) (cb (fdivI (u.2.1 11 0) 10)) 3)), (b2, zaZ k 39 (zk (absK (u.2.2.2 0) (cb (fdivI (u.2.1 11 0) 10)) 3))), (e0, .inr (4, [.ref g0, .ref q0, .ref e1, .ref e2, .ref e3, .ref e4, .ref e5, .ref e6, .ref e7, .int (u.2.1 11 3), .int (u.2.1 11 4), .int (u.2.1 11 5)])), (e1, zaJ k 3 (fun _ => 0)), (q0, .inr (2, [.ref q1, .int (u.2.1 11 7), .int (u.2.1 11 6)]))])) 0 0 (va_A [(hm, .inr (7, [.ref p0, .ref c0, .ref n0, .ref b0, .ref e0, .ref f0, .ref l1, .ref l2, .ref l3, .ref l4, .ref l5, .int (u.2.1 11 2), .int (msk (u.2.2.2 1)), .long (u.1 9 0)])), (n0, .inr (6, [.ref n1, .ref n2, .ref n3, .ref n4, .ref n5, .ref n6, .ref n7, .ref n8, .int (u.2.1 11 0), .int (u.2.1 11 1)])), (b0, .inr (3, [.ref b1, .ref b2, .int (nI (cntB (u.2.2.2 0) 39))])), (b1, zaI k 39 (u.2.1 9)), (b2, zaZ k 39 (zk (u.2.2.2 0))), (e0, .inr (4, [.ref g0, .ref q0, .ref e1, .ref e2, .ref e3, .ref e4, .ref e5, .ref e6, .ref e7, .int (u.2.1 11 3), .int (u.2.1 11 4), .int (u.2.1 11 5)])), (e1, zaJ k 3 (u.1 4)), (q0, .inr (2, [.ref q1, .int (u.2.1 11 7), .int (u.2.1 11 6)]))] sz) := by
  refine Met.ofW (cc := cX8_learnCompensation) (maxL := 1) (ret := (some .int)) (by decide) rfl ?_
  intro p e s m args below meth c s₁ B hml hv
  obtain ⟨rfl, hsz, hP, hK, hD0, hE⟩ := hv
  have hx := B.exec
  have hb := B.bytes
  have hr := B.returns
  have hts := atoms_spec (ws := wsX8_learnCompensation) B.pre
  have hown : s.vm.findClass RX8 = some m.cls := findClass_of_methodNamed B.named
  have hlocks := B.notSynchronized
  subst hsz
  have hD := hD0.self (sz := s.heap.size)
  delta zQi zB
  generalize hAe : va_A [(hm, .inr (7, [.ref p0, .ref c0, .ref n0, .ref b0, .ref e0, .ref f0, .ref l1, .ref l2, .ref l3, .ref l4, .ref l5, .int (u.2.1 11 2), .int (msk (u.2.2.2 1)), .long (u.1 9 0)])), (n0, .inr (6, [.ref n1, .ref n2, .ref n3, .ref n4, .ref n5, .ref n6, .ref n7, .ref n8, .int (u.2.1 11 0), .int (u.2.1 11 1)])), (b0, .inr (3, [.ref b1, .ref b2, .int (nI (cntB (u.2.2.2 0) 39))])), (b1, zaI k 39 (u.2.1 9)), (b2, zaZ k 39 (zk (u.2.2.2 0))), (e0, .inr (4, [.ref g0, .ref q0, .ref e1, .ref e2, .ref e3, .ref e4, .ref e5, .ref e6, .ref e7, .int (u.2.1 11 3), .int (u.2.1 11 4), .int (u.2.1 11 5)])), (e1, zaJ k 3 (u.1 4)), (q0, .inr (2, [.ref q1, .int (u.2.1 11 7), .int (u.2.1 11 6)]))] s.heap.size = A at hD hE ⊢
  have hA : ∀ q : Nat, s.heap.size ≤ q → A q := fun q h => by rw [← hAe]; exact Or.inr h
  have hS : va_S A s.heap s.heap [] := va_S.rf
  have hl := lv_entry [.ref hm] (n := 1) (Nat.le_of_ble_eq_true rfl)
  rw [lg_entry_eq]
  generalize (lg_sl [.ref hm] ++ List.replicate (1 - (lg_sl [.ref hm]).length) Slot.unset).toArray = ls at hl ⊢
  have hl : lv_has ls 1 [(0, .ref hm)] := hl
  have hl40 : (Cond.fieldLink RX8 40 "InertialReference" "estimator" "LInertialReference$Estimator;").before #[Value.ref hm] s = true := zw hts 1 rfl
  have hinX8 : ∀ w ∈ u_ws RX8 TX8 14, w ∈ wsX8_learnCompensation := fun w h => List.mem_cons_of_mem _ (List.mem_append_left _ (List.mem_append_left _ (List.mem_append_left _ (List.mem_append_left _ (List.mem_append_right _ h)))))
  have hl151 : (Cond.fieldLinkNest RX8 151 "InertialReference$Estimator" "calibration" "LInertialReference$Calibration;" "InertialReference").before #[Value.ref hm] s = true := va_Nw.use rfl (zn_RX8_151 hE)
  have hinX4 : ∀ w ∈ u_ws RX4 TX4 12, w ∈ wsX8_learnCompensation := fun w h => List.mem_cons_of_mem _ (List.mem_append_left _ (List.mem_append_left _ (List.mem_append_left _ (List.mem_append_right _ h))))
  have hl33 : (Cond.fieldLink RX8 33 "InertialReference" "table" "LInertialReference$CompensationTable;").before #[Value.ref hm] s = true := zw hts 2 rfl
  have hl167 : (Cond.fieldLinkNest RX8 167 "InertialReference$Estimator" "bias" "[J" "InertialReference").before #[Value.ref hm] s = true := va_Nw.use rfl (zn_RX8_167 hE)
  have hl26 : (Cond.fieldLink RX8 26 "InertialReference" "sensors" "LInertialReference$Sensors;").before #[Value.ref hm] s = true := zw hts 3 rfl
  have hl179 : (Cond.fieldLinkNest RX8 179 "InertialReference$CompensationTable" "size" "I" "InertialReference").before #[Value.ref hm] s = true := va_Nw.use rfl (zn_RX8_179 hE)
  have hinX3 : ∀ w ∈ u_ws RX3 TX3 3, w ∈ wsX8_learnCompensation := fun w h => List.mem_cons_of_mem _ (List.mem_append_left _ (List.mem_append_left _ (List.mem_append_right _ h)))
  refine lv_aload_n hx hb dX8_learnCompensation_0 rfl (lv_at hl 0 rfl) ?_
  refine va_get (D := D) (ci := 7) (v := .ref e0) (C := RX8) (T := TX8) (N := 14) hx hb hts hinX8 hown hK hP 0 rfl rfl 4 (Nat.le_of_ble_eq_true rfl) hl40 (fun _ h9 => h9) rfl dX8_learnCompensation_1 ?_
  refine va_getN (D := D) (ci := 4) (v := .ref q0) (C := RX4) (T := TX4) (N := 12) hx hb hts hinX4 hown hK hP 5 rfl rfl 1 (Nat.le_of_ble_eq_true rfl) hl151 (fun _ h9 => h9) rfl dX8_learnCompensation_4 ?_
  refine z_calli0 (wc := [(q0, .inr (2, [.ref q1, .int (u.2.1 11 7), .int (u.2.1 11 6)]))]) (wr := [(hm, .inr (7, [.ref p0, .ref c0, .ref n0, .ref b0, .ref e0, .ref f0, .ref l1, .ref l2, .ref l3, .ref l4, .ref l5, .int (u.2.1 11 2), .int (msk (u.2.2.2 1)), .long (u.1 9 0)])), (n0, .inr (6, [.ref n1, .ref n2, .ref n3, .ref n4, .ref n5, .ref n6, .ref n7, .ref n8, .int (u.2.1 11 0), .int (u.2.1 11 1)])), (b0, .inr (3, [.ref b1, .ref b2, .int (nI (cntB (u.2.2.2 0) 39))])), (b1, zaI k 39 (u.2.1 9)), (b2, zaZ k 39 (zk (u.2.2.2 0))), (e0, .inr (4, [.ref g0, .ref q0, .ref e1, .ref e2, .ref e3, .ref e4, .ref e5, .ref e6, .ref e7, .int (u.2.1 11 3), .int (u.2.1 11 4), .int (u.2.1 11 5)])), (e1, zaJ k 3 (u.1 4))]) (va_runV (As := []) (rest := []) ⟨hx, hb, hml, hown, hts⟩ (c_X2_isRunning l D k s.heap.size q0 q1 (u.2.1 11 7) (u.2.1 11 6)) (cwV 0 hts gX8_learnCompensation_X2_isRunning rfl rfl rfl (by decide +kernel) ⟨Nat.le_of_ble_eq_true rfl, Nat.le_of_ble_eq_true rfl⟩) (z_preV (wc := [(q0, .inr (2, [.ref q1, .int (u.2.1 11 7), .int (u.2.1 11 6)]))]) 7 2 hP hD hK [7] rfl rfl rfl rfl zb0 zp0) rfl rfl hl.1 rfl (lv_room (Nat.le_of_ble_eq_true rfl)) dX8_learnCompensation_7 ⟨Nat.zero_le _, Nat.zero_le _⟩) hP hD hS hA [7] [0, 1, 2, 3, 4, 5, 6] rfl rfl rfl (by decide) (fun w H locs hF hP hD hS => ?_)
  subst hF
  have hP : va_P D vwCl [(hm, .inr (7, [.ref p0, .ref c0, .ref n0, .ref b0, .ref e0, .ref f0, .ref l1, .ref l2, .ref l3, .ref l4, .ref l5, .int (u.2.1 11 2), .int (msk (u.2.2.2 1)), .long (u.1 9 0)])), (n0, .inr (6, [.ref n1, .ref n2, .ref n3, .ref n4, .ref n5, .ref n6, .ref n7, .ref n8, .int (u.2.1 11 0), .int (u.2.1 11 1)])), (b0, .inr (3, [.ref b1, .ref b2, .int (nI (cntB (u.2.2.2 0) 39))])), (b1, zaI k 39 (u.2.1 9)), (b2, zaZ k 39 (zk (u.2.2.2 0))), (e0, .inr (4, [.ref g0, .ref q0, .ref e1, .ref e2, .ref e3, .ref e4, .ref e5, .ref e6, .ref e7, .int (u.2.1 11 3), .int (u.2.1 11 4), .int (u.2.1 11 5)])), (e1, zaJ k 3 (u.1 4)), (q0, .inr (2, [.ref q1, .int (u.2.1 11 7), .int (u.2.1 11 6)]))] H := hP
  have hD : va_D A [(hm, .inr (7, [.ref p0, .ref c0, .ref n0, .ref b0, .ref e0, .ref f0, .ref l1, .ref l2, .ref l3, .ref l4, .ref l5, .int (u.2.1 11 2), .int (msk (u.2.2.2 1)), .long (u.1 9 0)])), (n0, .inr (6, [.ref n1, .ref n2, .ref n3, .ref n4, .ref n5, .ref n6, .ref n7, .ref n8, .int (u.2.1 11 0), .int (u.2.1 11 1)])), (b0, .inr (3, [.ref b1, .ref b2, .int (nI (cntB (u.2.2.2 0) 39))])), (b1, zaI k 39 (u.2.1 9)), (b2, zaZ k 39 (zk (u.2.2.2 0))), (e0, .inr (4, [.ref g0, .ref q0, .ref e1, .ref e2, .ref e3, .ref e4, .ref e5, .ref e6, .ref e7, .int (u.2.1 11 3), .int (u.2.1 11 4), .int (u.2.1 11 5)])), (e1, zaJ k 3 (u.1 4)), (q0, .inr (2, [.ref q1, .int (u.2.1 11 7), .int (u.2.1 11 6)]))] := hD
  refine lv_if_eq (tgt := 16) hx hb dX8_learnCompensation_10 (by decide) (fun c => ?_) (fun c => absurd c (by rw [hr3]; decide))
  refine lv_aload_n hx hb dX8_learnCompensation_16 rfl (lv_at hl 0 rfl) ?_
  refine va_get (D := D) (ci := 7) (v := .ref b0) (C := RX8) (T := TX8) (N := 14) hx hb hts hinX8 hown hK hP 0 rfl rfl 3 (Nat.le_of_ble_eq_true rfl) hl33 (fun _ h9 => h9) rfl dX8_learnCompensation_17 ?_
  refine lv_aload_n hx hb dX8_learnCompensation_20 rfl (lv_at hl 0 rfl) ?_
  refine va_get (D := D) (ci := 7) (v := .ref e0) (C := RX8) (T := TX8) (N := 14) hx hb hts hinX8 hown hK hP 0 rfl rfl 4 (Nat.le_of_ble_eq_true rfl) hl40 (fun _ h9 => h9) rfl dX8_learnCompensation_21 ?_
  refine va_getN (D := D) (ci := 4) (v := .ref e1) (C := RX4) (T := TX4) (N := 12) hx hb hts hinX4 hown hK hP 5 rfl rfl 2 (Nat.le_of_ble_eq_true rfl) hl167 (fun _ h9 => h9) rfl dX8_learnCompensation_24 ?_
  refine lv_aload_n hx hb dX8_learnCompensation_27 rfl (lv_at hl 0 rfl) ?_
  refine va_get (D := D) (ci := 7) (v := .ref n0) (C := RX8) (T := TX8) (N := 14) hx hb hts hinX8 hown hK hP 0 rfl rfl 2 (Nat.le_of_ble_eq_true rfl) hl26 (fun _ h9 => h9) rfl dX8_learnCompensation_28 ?_
  refine z_calli0 (wc := [(n0, .inr (6, [.ref n1, .ref n2, .ref n3, .ref n4, .ref n5, .ref n6, .ref n7, .ref n8, .int (u.2.1 11 0), .int (u.2.1 11 1)]))]) (wr := [(hm, .inr (7, [.ref p0, .ref c0, .ref n0, .ref b0, .ref e0, .ref f0, .ref l1, .ref l2, .ref l3, .ref l4, .ref l5, .int (u.2.1 11 2), .int (msk (u.2.2.2 1)), .long (u.1 9 0)])), (b0, .inr (3, [.ref b1, .ref b2, .int (nI (cntB (u.2.2.2 0) 39))])), (b1, zaI k 39 (u.2.1 9)), (b2, zaZ k 39 (zk (u.2.2.2 0))), (e0, .inr (4, [.ref g0, .ref q0, .ref e1, .ref e2, .ref e3, .ref e4, .ref e5, .ref e6, .ref e7, .int (u.2.1 11 3), .int (u.2.1 11 4), .int (u.2.1 11 5)])), (e1, zaJ k 3 (u.1 4)), (q0, .inr (2, [.ref q1, .int (u.2.1 11 7), .int (u.2.1 11 6)]))]) (va_runV (As := []) (rest := [.ref e1, .ref b0]) ⟨hx, hb, hml, hown, hts⟩ (c_X7_bin l D k H.size n0 n1 n2 n3 n4 n5 n6 n7 n8 (u.2.1 11 0) (u.2.1 11 1)) (cwV 0 hts gX8_learnCompensation_X7_bin rfl rfl rfl (by decide +kernel) ⟨Nat.le_of_ble_eq_true rfl, Nat.le_of_ble_eq_true rfl⟩) (z_preV (wc := [(n0, .inr (6, [.ref n1, .ref n2, .ref n3, .ref n4, .ref n5, .ref n6, .ref n7, .ref n8, .int (u.2.1 11 0), .int (u.2.1 11 1)]))]) 1 6 hP hD hK [1] rfl rfl rfl rfl zb0 zp0) rfl rfl hl.1 rfl (lv_room (Nat.le_of_ble_eq_true rfl)) dX8_learnCompensation_31 ⟨Nat.zero_le _, Nat.zero_le _⟩) hP hD hS hA [1] [0, 2, 3, 4, 5, 6, 7] rfl rfl rfl (by decide) (fun w H locs hF hP hD hS => ?_)
  subst hF
  have hP : va_P D vwCl [(hm, .inr (7, [.ref p0, .ref c0, .ref n0, .ref b0, .ref e0, .ref f0, .ref l1, .ref l2, .ref l3, .ref l4, .ref l5, .int (u.2.1 11 2), .int (msk (u.2.2.2 1)), .long (u.1 9 0)])), (b0, .inr (3, [.ref b1, .ref b2, .int (nI (cntB (u.2.2.2 0) 39))])), (b1, zaI k 39 (u.2.1 9)), (b2, zaZ k 39 (zk (u.2.2.2 0))), (e0, .inr (4, [.ref g0, .ref q0, .ref e1, .ref e2, .ref e3, .ref e4, .ref e5, .ref e6, .ref e7, .int (u.2.1 11 3), .int (u.2.1 11 4), .int (u.2.1 11 5)])), (e1, zaJ k 3 (u.1 4)), (q0, .inr (2, [.ref q1, .int (u.2.1 11 7), .int (u.2.1 11 6)])), (n0, .inr (6, [.ref n1, .ref n2, .ref n3, .ref n4, .ref n5, .ref n6, .ref n7, .ref n8, .int (u.2.1 11 0), .int (u.2.1 11 1)]))] H := hP
  have hD : va_D A [(hm, .inr (7, [.ref p0, .ref c0, .ref n0, .ref b0, .ref e0, .ref f0, .ref l1, .ref l2, .ref l3, .ref l4, .ref l5, .int (u.2.1 11 2), .int (msk (u.2.2.2 1)), .long (u.1 9 0)])), (b0, .inr (3, [.ref b1, .ref b2, .int (nI (cntB (u.2.2.2 0) 39))])), (b1, zaI k 39 (u.2.1 9)), (b2, zaZ k 39 (zk (u.2.2.2 0))), (e0, .inr (4, [.ref g0, .ref q0, .ref e1, .ref e2, .ref e3, .ref e4, .ref e5, .ref e6, .ref e7, .int (u.2.1 11 3), .int (u.2.1 11 4), .int (u.2.1 11 5)])), (e1, zaJ k 3 (u.1 4)), (q0, .inr (2, [.ref q1, .int (u.2.1 11 7), .int (u.2.1 11 6)])), (n0, .inr (6, [.ref n1, .ref n2, .ref n3, .ref n4, .ref n5, .ref n6, .ref n7, .ref n8, .int (u.2.1 11 0), .int (u.2.1 11 1)]))] := hD
  refine z_callv0 (wc := [(b0, .inr (3, [.ref b1, .ref b2, .int (nI (cntB (u.2.2.2 0) 39))])), (b1, zaI k 39 (u.2.1 9)), (b2, zaZ k 39 (zk (u.2.2.2 0))), (e1, zaJ k 3 (u.1 4))]) (wr := [(hm, .inr (7, [.ref p0, .ref c0, .ref n0, .ref b0, .ref e0, .ref f0, .ref l1, .ref l2, .ref l3, .ref l4, .ref l5, .int (u.2.1 11 2), .int (msk (u.2.2.2 1)), .long (u.1 9 0)])), (e0, .inr (4, [.ref g0, .ref q0, .ref e1, .ref e2, .ref e3, .ref e4, .ref e5, .ref e6, .ref e7, .int (u.2.1 11 3), .int (u.2.1 11 4), .int (u.2.1 11 5)])), (q0, .inr (2, [.ref q1, .int (u.2.1 11 7), .int (u.2.1 11 6)])), (n0, .inr (6, [.ref n1, .ref n2, .ref n3, .ref n4, .ref n5, .ref n6, .ref n7, .ref n8, .int (u.2.1 11 0), .int (u.2.1 11 1)]))]) (va_runV (As := [.ref e1, .int (fdivI (u.2.1 11 0) 10)]) (rest := []) ⟨hx, hb, hml, hown, hts⟩ (c_X3_absorb l D k H.size b0 b1 b2 e1 (u.2.1 9) (u.1 4) (u.2.2.2 0) (fdivI (u.2.1 11 0) 10) hb3) (cwV 2 hts gX8_learnCompensation_X3_absorb rfl rfl rfl (by decide +kernel) ⟨Nat.le_of_ble_eq_true rfl, Nat.le_of_ble_eq_true rfl⟩) (z_preV (wc := [(b0, .inr (3, [.ref b1, .ref b2, .int (nI (cntB (u.2.2.2 0) 39))])), (b1, zaI k 39 (u.2.1 9)), (b2, zaZ k 39 (zk (u.2.2.2 0))), (e1, zaJ k 3 (u.1 4))]) 1 3 hP hD hK [1, 2, 3, 5] rfl rfl rfl rfl zb0 zp0) rfl rfl hl.1 rfl (lv_room (Nat.le_of_ble_eq_true rfl)) dX8_learnCompensation_34 ⟨Nat.zero_le _, Nat.zero_le _⟩) hP hD hS hA [1, 2, 3, 5] [0, 4, 6, 7] rfl rfl rfl (by decide) (fun w H locs hF hP hD hS => ?_)
  subst hF
  have hP : va_P D vwCl [(hm, .inr (7, [.ref p0, .ref c0, .ref n0, .ref b0, .ref e0, .ref f0, .ref l1, .ref l2, .ref l3, .ref l4, .ref l5, .int (u.2.1 11 2), .int (msk (u.2.2.2 1)), .long (u.1 9 0)])), (e0, .inr (4, [.ref g0, .ref q0, .ref e1, .ref e2, .ref e3, .ref e4, .ref e5, .ref e6, .ref e7, .int (u.2.1 11 3), .int (u.2.1 11 4), .int (u.2.1 11 5)])), (q0, .inr (2, [.ref q1, .int (u.2.1 11 7), .int (u.2.1 11 6)])), (n0, .inr (6, [.ref n1, .ref n2, .ref n3, .ref n4, .ref n5, .ref n6, .ref n7, .ref n8, .int (u.2.1 11 0), .int (u.2.1 11 1)])), (b0, .inr (3, [.ref b1, .ref b2, .int (nI (cntB (absK (u.2.2.2 0) (cb (fdivI (u.2.1 11 0) 10)) 3) 39))])), (b1, zaI k 39 (absV (u.2.1 9) (u.1 4) (cb (fdivI (u.2.1 11 0) 10)) 3)), (b2, zaZ k 39 (zk (absK (u.2.2.2 0) (cb (fdivI (u.2.1 11 0) 10)) 3))), (e1, zaJ k 3 (fun _ => 0))] H := hP
  have hD : va_D A [(hm, .inr (7, [.ref p0, .ref c0, .ref n0, .ref b0, .ref e0, .ref f0, .ref l1, .ref l2, .ref l3, .ref l4, .ref l5, .int (u.2.1 11 2), .int (msk (u.2.2.2 1)), .long (u.1 9 0)])), (e0, .inr (4, [.ref g0, .ref q0, .ref e1, .ref e2, .ref e3, .ref e4, .ref e5, .ref e6, .ref e7, .int (u.2.1 11 3), .int (u.2.1 11 4), .int (u.2.1 11 5)])), (q0, .inr (2, [.ref q1, .int (u.2.1 11 7), .int (u.2.1 11 6)])), (n0, .inr (6, [.ref n1, .ref n2, .ref n3, .ref n4, .ref n5, .ref n6, .ref n7, .ref n8, .int (u.2.1 11 0), .int (u.2.1 11 1)])), (b0, .inr (3, [.ref b1, .ref b2, .int (nI (cntB (absK (u.2.2.2 0) (cb (fdivI (u.2.1 11 0) 10)) 3) 39))])), (b1, zaI k 39 (absV (u.2.1 9) (u.1 4) (cb (fdivI (u.2.1 11 0) 10)) 3)), (b2, zaZ k 39 (zk (absK (u.2.2.2 0) (cb (fdivI (u.2.1 11 0) 10)) 3))), (e1, zaJ k 3 (fun _ => 0))] := hD
  refine lv_aload_n hx hb dX8_learnCompensation_37 rfl (lv_at hl 0 rfl) ?_
  refine va_get (D := D) (ci := 7) (v := .ref b0) (C := RX8) (T := TX8) (N := 14) hx hb hts hinX8 hown hK hP 0 rfl rfl 3 (Nat.le_of_ble_eq_true rfl) hl33 (fun _ h9 => h9) rfl dX8_learnCompensation_38 ?_
  refine va_getN (D := D) (ci := 3) (v := .int (nI (cntB (absK (u.2.2.2 0) (cb (fdivI (u.2.1 11 0) 10)) 3) 39))) (C := RX3) (T := TX3) (N := 3) hx hb hts hinX3 hown hK hP 4 rfl rfl 2 (Nat.le_of_ble_eq_true rfl) hl179 (fun _ h9 => h9) rfl dX8_learnCompensation_41 ?_
  have hP9 := hP.sub (ws' := [(hm, .inr (7, [.ref p0, .ref c0, .ref n0, .ref b0, .ref e0, .ref f0, .ref l1, .ref l2, .ref l3, .ref l4, .ref l5, .int (u.2.1 11 2), .int (msk (u.2.2.2 1)), .long (u.1 9 0)])), (n0, .inr (6, [.ref n1, .ref n2, .ref n3, .ref n4, .ref n5, .ref n6, .ref n7, .ref n8, .int (u.2.1 11 0), .int (u.2.1 11 1)])), (b0, .inr (3, [.ref b1, .ref b2, .int (nI (cntB (absK (u.2.2.2 0) (cb (fdivI (u.2.1 11 0) 10)) 3) 39))])), (b1, zaI k 39 (absV (u.2.1 9) (u.1 4) (cb (fdivI (u.2.1 11 0) 10)) 3)), (b2, zaZ k 39 (zk (absK (u.2.2.2 0) (cb (fdivI (u.2.1 11 0) 10)) 3))), (e0, .inr (4, [.ref g0, .ref q0, .ref e1, .ref e2, .ref e3, .ref e4, .ref e5, .ref e6, .ref e7, .int (u.2.1 11 3), .int (u.2.1 11 4), .int (u.2.1 11 5)])), (e1, zaJ k 3 (fun _ => 0)), (q0, .inr (2, [.ref q1, .int (u.2.1 11 7), .int (u.2.1 11 6)]))]) [0, 3, 4, 5, 6, 1, 7, 2] rfl
  have hD9 := hD.sub (ws' := [(hm, .inr (7, [.ref p0, .ref c0, .ref n0, .ref b0, .ref e0, .ref f0, .ref l1, .ref l2, .ref l3, .ref l4, .ref l5, .int (u.2.1 11 2), .int (msk (u.2.2.2 1)), .long (u.1 9 0)])), (n0, .inr (6, [.ref n1, .ref n2, .ref n3, .ref n4, .ref n5, .ref n6, .ref n7, .ref n8, .int (u.2.1 11 0), .int (u.2.1 11 1)])), (b0, .inr (3, [.ref b1, .ref b2, .int (nI (cntB (absK (u.2.2.2 0) (cb (fdivI (u.2.1 11 0) 10)) 3) 39))])), (b1, zaI k 39 (absV (u.2.1 9) (u.1 4) (cb (fdivI (u.2.1 11 0) 10)) 3)), (b2, zaZ k 39 (zk (absK (u.2.2.2 0) (cb (fdivI (u.2.1 11 0) 10)) 3))), (e0, .inr (4, [.ref g0, .ref q0, .ref e1, .ref e2, .ref e3, .ref e4, .ref e5, .ref e6, .ref e7, .int (u.2.1 11 3), .int (u.2.1 11 4), .int (u.2.1 11 5)])), (e1, zaJ k 3 (fun _ => 0)), (q0, .inr (2, [.ref q1, .int (u.2.1 11 7), .int (u.2.1 11 6)]))]) [0, 3, 4, 5, 6, 1, 7, 2] (by decide) rfl
  exact W.iret (v := nI (cntB (absK (u.2.2.2 0) (cb (fdivI (u.2.1 11 0) 10)) 3) 39)) hx hb hr (fun t9 ht9 hW9 => ⟨⟨(nI (cntB (absK (u.2.2.2 0) (cb (fdivI (u.2.1 11 0) 10)) 3) 39)), [(hm, .inr (7, [.ref p0, .ref c0, .ref n0, .ref b0, .ref e0, .ref f0, .ref l1, .ref l2, .ref l3, .ref l4, .ref l5, .int (u.2.1 11 2), .int (msk (u.2.2.2 1)), .long (u.1 9 0)])), (n0, .inr (6, [.ref n1, .ref n2, .ref n3, .ref n4, .ref n5, .ref n6, .ref n7, .ref n8, .int (u.2.1 11 0), .int (u.2.1 11 1)])), (b0, .inr (3, [.ref b1, .ref b2, .int (nI (cntB (absK (u.2.2.2 0) (cb (fdivI (u.2.1 11 0) 10)) 3) 39))])), (b1, zaI k 39 (absV (u.2.1 9) (u.1 4) (cb (fdivI (u.2.1 11 0) 10)) 3)), (b2, zaZ k 39 (zk (absK (u.2.2.2 0) (cb (fdivI (u.2.1 11 0) 10)) 3))), (e0, .inr (4, [.ref g0, .ref q0, .ref e1, .ref e2, .ref e3, .ref e4, .ref e5, .ref e6, .ref e7, .int (u.2.1 11 3), .int (u.2.1 11 4), .int (u.2.1 11 5)])), (e1, zaJ k 3 (fun _ => 0)), (q0, .inr (2, [.ref q1, .int (u.2.1 11 7), .int (u.2.1 11 6)]))], rfl, ⟨rfl, rfl⟩, by rw [ht9]; exact hP9, hD9⟩, hS.F ht9⟩) hS.2.2 dX8_learnCompensation_44
set_option maxHeartbeats 4000000 in
set_option maxRecDepth 100000 in
theorem c_X8_learnCompensation_busy (l : Launch) (D : va_G) (k : Nat → ClassId) (sz : Nat) (hm p0 c0 n0 b0 e0 e1 e2 e3 e4 e5 e6 e7 g0 q0 q1 f0 l1 l2 l3 l4 l5 : Nat) (u : zS)  (hr3 : run0 (u.2.1 11 6) = true) : Met l yX8_learnCompensation wsX8_learnCompensation ({ frames := 1, cells := 0, slots := 0, locals := 20 } : Room) (va_Pc [.ref hm] (zPre D k [(hm, .inr (7, [.ref p0, .ref c0, .ref n0, .ref b0, .ref e0, .ref f0, .ref l1, .ref l2, .ref l3, .ref l4, .ref l5, .int (u.2.1 11 2), .int (msk (u.2.2.2 1)), .long (u.1 9 0)])), (e0, .inr (4, [.ref g0, .ref q0, .ref e1, .ref e2, .ref e3, .ref e4, .ref e5, .ref e6, .ref e7, .int (u.2.1 11 3), .int (u.2.1 11 4), .int (u.2.1 11 5)])), (q0, .inr (2, [.ref q1, .int (u.2.1 11 7), .int (u.2.1 11 6)]))] sz zN)) (zQi D [(hm, .inr (7, [.ref p0, .ref c0, .ref n0, .ref b0, .ref e0, .ref f0, .ref l1, .ref l2, .ref l3, .ref l4, .ref l5, .int (u.2.1 11 2), .int (msk (u.2.2.2 1)), .long (u.1 9 0)])), (e0, .inr (4, [.ref g0, .ref q0, .ref e1, .ref e2, .ref e3, .ref e4, .ref e5, .ref e6, .ref e7, .int (u.2.1 11 3), .int (u.2.1 11 4), .int (u.2.1 11 5)])), (q0, .inr (2, [.ref q1, .int (u.2.1 11 7), .int (u.2.1 11 6)]))] sz (-4) (fun w : va_W => w = [(hm, .inr (7, [.ref p0, .ref c0, .ref n0, .ref b0, .ref e0, .ref f0, .ref l1, .ref l2, .ref l3, .ref l4, .ref l5, .int (u.2.1 11 2), .int (msk (u.2.2.2 1)), .long (u.1 9 0)])), (e0, .inr (4, [.ref g0, .ref q0, .ref e1, .ref e2, .ref e3, .ref e4, .ref e5, .ref e6, .ref e7, .int (u.2.1 11 3), .int (u.2.1 11 4), .int (u.2.1 11 5)])), (q0, .inr (2, [.ref q1, .int (u.2.1 11 7), .int (u.2.1 11 6)]))])) 0 0 (va_A [(hm, .inr (7, [.ref p0, .ref c0, .ref n0, .ref b0, .ref e0, .ref f0, .ref l1, .ref l2, .ref l3, .ref l4, .ref l5, .int (u.2.1 11 2), .int (msk (u.2.2.2 1)), .long (u.1 9 0)])), (e0, .inr (4, [.ref g0, .ref q0, .ref e1, .ref e2, .ref e3, .ref e4, .ref e5, .ref e6, .ref e7, .int (u.2.1 11 3), .int (u.2.1 11 4), .int (u.2.1 11 5)])), (q0, .inr (2, [.ref q1, .int (u.2.1 11 7), .int (u.2.1 11 6)]))] sz) := by
  refine Met.ofW (cc := cX8_learnCompensation) (maxL := 1) (ret := (some .int)) (by decide) rfl ?_
  intro p e s m args below meth c s₁ B hml hv
  obtain ⟨rfl, hsz, hP, hK, hD0, hE⟩ := hv
  have hx := B.exec
  have hb := B.bytes
  have hr := B.returns
  have hts := atoms_spec (ws := wsX8_learnCompensation) B.pre
  have hown : s.vm.findClass RX8 = some m.cls := findClass_of_methodNamed B.named
  have hlocks := B.notSynchronized
  subst hsz
  have hD := hD0.self (sz := s.heap.size)
  delta zQi zB
  generalize hAe : va_A [(hm, .inr (7, [.ref p0, .ref c0, .ref n0, .ref b0, .ref e0, .ref f0, .ref l1, .ref l2, .ref l3, .ref l4, .ref l5, .int (u.2.1 11 2), .int (msk (u.2.2.2 1)), .long (u.1 9 0)])), (e0, .inr (4, [.ref g0, .ref q0, .ref e1, .ref e2, .ref e3, .ref e4, .ref e5, .ref e6, .ref e7, .int (u.2.1 11 3), .int (u.2.1 11 4), .int (u.2.1 11 5)])), (q0, .inr (2, [.ref q1, .int (u.2.1 11 7), .int (u.2.1 11 6)]))] s.heap.size = A at hD hE ⊢
  have hA : ∀ q : Nat, s.heap.size ≤ q → A q := fun q h => by rw [← hAe]; exact Or.inr h
  have hS : va_S A s.heap s.heap [] := va_S.rf
  have hl := lv_entry [.ref hm] (n := 1) (Nat.le_of_ble_eq_true rfl)
  rw [lg_entry_eq]
  generalize (lg_sl [.ref hm] ++ List.replicate (1 - (lg_sl [.ref hm]).length) Slot.unset).toArray = ls at hl ⊢
  have hl : lv_has ls 1 [(0, .ref hm)] := hl
  have hl40 : (Cond.fieldLink RX8 40 "InertialReference" "estimator" "LInertialReference$Estimator;").before #[Value.ref hm] s = true := zw hts 1 rfl
  have hinX8 : ∀ w ∈ u_ws RX8 TX8 14, w ∈ wsX8_learnCompensation := fun w h => List.mem_cons_of_mem _ (List.mem_append_left _ (List.mem_append_left _ (List.mem_append_left _ (List.mem_append_left _ (List.mem_append_right _ h)))))
  have hl151 : (Cond.fieldLinkNest RX8 151 "InertialReference$Estimator" "calibration" "LInertialReference$Calibration;" "InertialReference").before #[Value.ref hm] s = true := va_Nw.use rfl (zn_RX8_151 hE)
  have hinX4 : ∀ w ∈ u_ws RX4 TX4 12, w ∈ wsX8_learnCompensation := fun w h => List.mem_cons_of_mem _ (List.mem_append_left _ (List.mem_append_left _ (List.mem_append_left _ (List.mem_append_right _ h))))
  refine lv_aload_n hx hb dX8_learnCompensation_0 rfl (lv_at hl 0 rfl) ?_
  refine va_get (D := D) (ci := 7) (v := .ref e0) (C := RX8) (T := TX8) (N := 14) hx hb hts hinX8 hown hK hP 0 rfl rfl 4 (Nat.le_of_ble_eq_true rfl) hl40 (fun _ h9 => h9) rfl dX8_learnCompensation_1 ?_
  refine va_getN (D := D) (ci := 4) (v := .ref q0) (C := RX4) (T := TX4) (N := 12) hx hb hts hinX4 hown hK hP 1 rfl rfl 1 (Nat.le_of_ble_eq_true rfl) hl151 (fun _ h9 => h9) rfl dX8_learnCompensation_4 ?_
  refine z_calli0 (wc := [(q0, .inr (2, [.ref q1, .int (u.2.1 11 7), .int (u.2.1 11 6)]))]) (wr := [(hm, .inr (7, [.ref p0, .ref c0, .ref n0, .ref b0, .ref e0, .ref f0, .ref l1, .ref l2, .ref l3, .ref l4, .ref l5, .int (u.2.1 11 2), .int (msk (u.2.2.2 1)), .long (u.1 9 0)])), (e0, .inr (4, [.ref g0, .ref q0, .ref e1, .ref e2, .ref e3, .ref e4, .ref e5, .ref e6, .ref e7, .int (u.2.1 11 3), .int (u.2.1 11 4), .int (u.2.1 11 5)]))]) (va_runV (As := []) (rest := []) ⟨hx, hb, hml, hown, hts⟩ (c_X2_isRunning l D k s.heap.size q0 q1 (u.2.1 11 7) (u.2.1 11 6)) (cwV 0 hts gX8_learnCompensation_X2_isRunning rfl rfl rfl (by decide +kernel) ⟨Nat.le_of_ble_eq_true rfl, Nat.le_of_ble_eq_true rfl⟩) (z_preV (wc := [(q0, .inr (2, [.ref q1, .int (u.2.1 11 7), .int (u.2.1 11 6)]))]) 2 2 hP hD hK [2] rfl rfl rfl rfl zb0 zp0) rfl rfl hl.1 rfl (lv_room (Nat.le_of_ble_eq_true rfl)) dX8_learnCompensation_7 ⟨Nat.zero_le _, Nat.zero_le _⟩) hP hD hS hA [2] [0, 1] rfl rfl rfl (by decide) (fun w H locs hF hP hD hS => ?_)
  subst hF
  have hP : va_P D vwCl [(hm, .inr (7, [.ref p0, .ref c0, .ref n0, .ref b0, .ref e0, .ref f0, .ref l1, .ref l2, .ref l3, .ref l4, .ref l5, .int (u.2.1 11 2), .int (msk (u.2.2.2 1)), .long (u.1 9 0)])), (e0, .inr (4, [.ref g0, .ref q0, .ref e1, .ref e2, .ref e3, .ref e4, .ref e5, .ref e6, .ref e7, .int (u.2.1 11 3), .int (u.2.1 11 4), .int (u.2.1 11 5)])), (q0, .inr (2, [.ref q1, .int (u.2.1 11 7), .int (u.2.1 11 6)]))] H := hP
  have hD : va_D A [(hm, .inr (7, [.ref p0, .ref c0, .ref n0, .ref b0, .ref e0, .ref f0, .ref l1, .ref l2, .ref l3, .ref l4, .ref l5, .int (u.2.1 11 2), .int (msk (u.2.2.2 1)), .long (u.1 9 0)])), (e0, .inr (4, [.ref g0, .ref q0, .ref e1, .ref e2, .ref e3, .ref e4, .ref e5, .ref e6, .ref e7, .int (u.2.1 11 3), .int (u.2.1 11 4), .int (u.2.1 11 5)])), (q0, .inr (2, [.ref q1, .int (u.2.1 11 7), .int (u.2.1 11 6)]))] := hD
  refine lv_if_eq (tgt := 16) hx hb dX8_learnCompensation_10 (by decide) (fun c => absurd c (by rw [hr3]; decide)) (fun c => ?_)
  refine lv_bipush (v := (-4)) hx hb dX8_learnCompensation_13 (by decide) ?_
  have hP9 := hP.sub (ws' := [(hm, .inr (7, [.ref p0, .ref c0, .ref n0, .ref b0, .ref e0, .ref f0, .ref l1, .ref l2, .ref l3, .ref l4, .ref l5, .int (u.2.1 11 2), .int (msk (u.2.2.2 1)), .long (u.1 9 0)])), (e0, .inr (4, [.ref g0, .ref q0, .ref e1, .ref e2, .ref e3, .ref e4, .ref e5, .ref e6, .ref e7, .int (u.2.1 11 3), .int (u.2.1 11 4), .int (u.2.1 11 5)])), (q0, .inr (2, [.ref q1, .int (u.2.1 11 7), .int (u.2.1 11 6)]))]) [0, 1, 2] rfl
  have hD9 := hD.sub (ws' := [(hm, .inr (7, [.ref p0, .ref c0, .ref n0, .ref b0, .ref e0, .ref f0, .ref l1, .ref l2, .ref l3, .ref l4, .ref l5, .int (u.2.1 11 2), .int (msk (u.2.2.2 1)), .long (u.1 9 0)])), (e0, .inr (4, [.ref g0, .ref q0, .ref e1, .ref e2, .ref e3, .ref e4, .ref e5, .ref e6, .ref e7, .int (u.2.1 11 3), .int (u.2.1 11 4), .int (u.2.1 11 5)])), (q0, .inr (2, [.ref q1, .int (u.2.1 11 7), .int (u.2.1 11 6)]))]) [0, 1, 2] (by decide) rfl
  exact W.iret (v := (-4)) hx hb hr (fun t9 ht9 hW9 => ⟨⟨(-4), [(hm, .inr (7, [.ref p0, .ref c0, .ref n0, .ref b0, .ref e0, .ref f0, .ref l1, .ref l2, .ref l3, .ref l4, .ref l5, .int (u.2.1 11 2), .int (msk (u.2.2.2 1)), .long (u.1 9 0)])), (e0, .inr (4, [.ref g0, .ref q0, .ref e1, .ref e2, .ref e3, .ref e4, .ref e5, .ref e6, .ref e7, .int (u.2.1 11 3), .int (u.2.1 11 4), .int (u.2.1 11 5)])), (q0, .inr (2, [.ref q1, .int (u.2.1 11 7), .int (u.2.1 11 6)]))], rfl, ⟨rfl, rfl⟩, by rw [ht9]; exact hP9, hD9⟩, hS.F ht9⟩) hS.2.2 dX8_learnCompensation_15
set_option maxHeartbeats 4000000 in
set_option maxRecDepth 100000 in
theorem c_X8_compensation_ok (l : Launch) (D : va_G) (k : Nat → ClassId) (sz : Nat) (hm p0 c0 n0 b0 b1 b2 e0 f0 l1 l2 l3 l4 l5 : Nat) (u : zS) (i : Nat) (b : Int32) (hi : i < 3) (h1 : zin b (-4) 8 = true) : Met l yX8_compensation wsX8_compensation ({ frames := 3, cells := 0, slots := 0, locals := 64 } : Room) (va_Pc [.ref hm, .int (nI i), .int b] (zPre D k [(hm, .inr (7, [.ref p0, .ref c0, .ref n0, .ref b0, .ref e0, .ref f0, .ref l1, .ref l2, .ref l3, .ref l4, .ref l5, .int (u.2.1 11 2), .int (msk (u.2.2.2 1)), .long (u.1 9 0)])), (b0, .inr (3, [.ref b1, .ref b2, .int (nI (cntB (u.2.2.2 0) 39))])), (b1, zaI k 39 (u.2.1 9)), (b2, zaZ k 39 (zk (u.2.2.2 0)))] sz zX0)) (zQi D [(hm, .inr (7, [.ref p0, .ref c0, .ref n0, .ref b0, .ref e0, .ref f0, .ref l1, .ref l2, .ref l3, .ref l4, .ref l5, .int (u.2.1 11 2), .int (msk (u.2.2.2 1)), .long (u.1 9 0)])), (b0, .inr (3, [.ref b1, .ref b2, .int (nI (cntB (u.2.2.2 0) 39))])), (b1, zaI k 39 (u.2.1 9)), (b2, zaZ k 39 (zk (u.2.2.2 0)))] sz ((u.2.1 9) (i * 13 + cb b)) (fun w : va_W => w = [(hm, .inr (7, [.ref p0, .ref c0, .ref n0, .ref b0, .ref e0, .ref f0, .ref l1, .ref l2, .ref l3, .ref l4, .ref l5, .int (u.2.1 11 2), .int (msk (u.2.2.2 1)), .long (u.1 9 0)])), (b0, .inr (3, [.ref b1, .ref b2, .int (nI (cntB (u.2.2.2 0) 39))])), (b1, zaI k 39 (u.2.1 9)), (b2, zaZ k 39 (zk (u.2.2.2 0)))])) 0 0 (va_A [(hm, .inr (7, [.ref p0, .ref c0, .ref n0, .ref b0, .ref e0, .ref f0, .ref l1, .ref l2, .ref l3, .ref l4, .ref l5, .int (u.2.1 11 2), .int (msk (u.2.2.2 1)), .long (u.1 9 0)])), (b0, .inr (3, [.ref b1, .ref b2, .int (nI (cntB (u.2.2.2 0) 39))])), (b1, zaI k 39 (u.2.1 9)), (b2, zaZ k 39 (zk (u.2.2.2 0)))] sz) := by
  refine Met.ofW (cc := cX8_compensation) (maxL := 3) (ret := (some .int)) (by decide) rfl ?_
  intro p e s m args below meth c s₁ B hml hv
  obtain ⟨rfl, hsz, hP, hK, hD0, hE⟩ := hv
  have hx := B.exec
  have hb := B.bytes
  have hr := B.returns
  have hts := atoms_spec (ws := wsX8_compensation) B.pre
  have hown : s.vm.findClass RX8 = some m.cls := findClass_of_methodNamed B.named
  have hlocks := B.notSynchronized
  subst hsz
  have hD := hD0.self (sz := s.heap.size)
  delta zQi zB
  generalize hAe : va_A [(hm, .inr (7, [.ref p0, .ref c0, .ref n0, .ref b0, .ref e0, .ref f0, .ref l1, .ref l2, .ref l3, .ref l4, .ref l5, .int (u.2.1 11 2), .int (msk (u.2.2.2 1)), .long (u.1 9 0)])), (b0, .inr (3, [.ref b1, .ref b2, .int (nI (cntB (u.2.2.2 0) 39))])), (b1, zaI k 39 (u.2.1 9)), (b2, zaZ k 39 (zk (u.2.2.2 0)))] s.heap.size = A at hD hE ⊢
  have hA : ∀ q : Nat, s.heap.size ≤ q → A q := fun q h => by rw [← hAe]; exact Or.inr h
  have hS : va_S A s.heap s.heap [] := va_S.rf
  have hl := lv_entry [.ref hm, .int (nI i), .int b] (n := 3) (Nat.le_of_ble_eq_true rfl)
  rw [lg_entry_eq]
  generalize (lg_sl [.ref hm, .int (nI i), .int b] ++ List.replicate (3 - (lg_sl [.ref hm, .int (nI i), .int b]).length) Slot.unset).toArray = ls at hl ⊢
  have hl : lv_has ls 3 [(0, .ref hm), (1, .int (nI i)), (2, .int b)] := hl
  have hl33 : (Cond.fieldLink RX8 33 "InertialReference" "table" "LInertialReference$CompensationTable;").before #[Value.ref hm, Value.int (nI i), Value.int b] s = true := zw hts 1 rfl
  have hinX8 : ∀ w ∈ u_ws RX8 TX8 14, w ∈ wsX8_compensation := fun w h => List.mem_cons_of_mem _ (List.mem_append_left _ (List.mem_append_right _ h))
  refine lv_aload_n hx hb dX8_compensation_0 rfl (lv_at hl 0 rfl) ?_
  refine va_get (D := D) (ci := 7) (v := .ref b0) (C := RX8) (T := TX8) (N := 14) hx hb hts hinX8 hown hK hP 0 rfl rfl 3 (Nat.le_of_ble_eq_true rfl) hl33 (fun _ h9 => h9) rfl dX8_compensation_1 ?_
  refine lv_iload_n hx hb dX8_compensation_4 rfl (lv_at hl 1 rfl) ?_
  refine lv_iload_n hx hb dX8_compensation_5 rfl (lv_at hl 2 rfl) ?_
  refine z_calli0 (wc := [(b0, .inr (3, [.ref b1, .ref b2, .int (nI (cntB (u.2.2.2 0) 39))])), (b1, zaI k 39 (u.2.1 9)), (b2, zaZ k 39 (zk (u.2.2.2 0)))]) (wr := [(hm, .inr (7, [.ref p0, .ref c0, .ref n0, .ref b0, .ref e0, .ref f0, .ref l1, .ref l2, .ref l3, .ref l4, .ref l5, .int (u.2.1 11 2), .int (msk (u.2.2.2 1)), .long (u.1 9 0)]))]) (va_runV (As := [.int (nI i), .int b]) (rest := []) ⟨hx, hb, hml, hown, hts⟩ (c_X3_value_ok l D k s.heap.size b0 b1 b2 (u.2.1 9) (u.2.2.2 0) i b hi h1) (cwV 2 hts gX8_compensation_X3_value rfl rfl rfl (by decide +kernel) ⟨Nat.le_of_ble_eq_true rfl, Nat.le_of_ble_eq_true rfl⟩) (z_preV (wc := [(b0, .inr (3, [.ref b1, .ref b2, .int (nI (cntB (u.2.2.2 0) 39))])), (b1, zaI k 39 (u.2.1 9)), (b2, zaZ k 39 (zk (u.2.2.2 0)))]) 1 3 hP hD hK [1, 2, 3] rfl rfl rfl rfl zb0 zp0) rfl rfl hl.1 rfl (lv_room (Nat.le_of_ble_eq_true rfl)) dX8_compensation_6 ⟨Nat.zero_le _, Nat.zero_le _⟩) hP hD hS hA [1, 2, 3] [0] rfl rfl rfl (by decide) (fun w H locs hF hP hD hS => ?_)
  subst hF
  have hP : va_P D vwCl [(hm, .inr (7, [.ref p0, .ref c0, .ref n0, .ref b0, .ref e0, .ref f0, .ref l1, .ref l2, .ref l3, .ref l4, .ref l5, .int (u.2.1 11 2), .int (msk (u.2.2.2 1)), .long (u.1 9 0)])), (b0, .inr (3, [.ref b1, .ref b2, .int (nI (cntB (u.2.2.2 0) 39))])), (b1, zaI k 39 (u.2.1 9)), (b2, zaZ k 39 (zk (u.2.2.2 0)))] H := hP
  have hD : va_D A [(hm, .inr (7, [.ref p0, .ref c0, .ref n0, .ref b0, .ref e0, .ref f0, .ref l1, .ref l2, .ref l3, .ref l4, .ref l5, .int (u.2.1 11 2), .int (msk (u.2.2.2 1)), .long (u.1 9 0)])), (b0, .inr (3, [.ref b1, .ref b2, .int (nI (cntB (u.2.2.2 0) 39))])), (b1, zaI k 39 (u.2.1 9)), (b2, zaZ k 39 (zk (u.2.2.2 0)))] := hD
  have hP9 := hP.sub (ws' := [(hm, .inr (7, [.ref p0, .ref c0, .ref n0, .ref b0, .ref e0, .ref f0, .ref l1, .ref l2, .ref l3, .ref l4, .ref l5, .int (u.2.1 11 2), .int (msk (u.2.2.2 1)), .long (u.1 9 0)])), (b0, .inr (3, [.ref b1, .ref b2, .int (nI (cntB (u.2.2.2 0) 39))])), (b1, zaI k 39 (u.2.1 9)), (b2, zaZ k 39 (zk (u.2.2.2 0)))]) [0, 1, 2, 3] rfl
  have hD9 := hD.sub (ws' := [(hm, .inr (7, [.ref p0, .ref c0, .ref n0, .ref b0, .ref e0, .ref f0, .ref l1, .ref l2, .ref l3, .ref l4, .ref l5, .int (u.2.1 11 2), .int (msk (u.2.2.2 1)), .long (u.1 9 0)])), (b0, .inr (3, [.ref b1, .ref b2, .int (nI (cntB (u.2.2.2 0) 39))])), (b1, zaI k 39 (u.2.1 9)), (b2, zaZ k 39 (zk (u.2.2.2 0)))]) [0, 1, 2, 3] (by decide) rfl
  exact W.iret (v := (u.2.1 9) (i * 13 + cb b)) hx hb hr (fun t9 ht9 hW9 => ⟨⟨((u.2.1 9) (i * 13 + cb b)), [(hm, .inr (7, [.ref p0, .ref c0, .ref n0, .ref b0, .ref e0, .ref f0, .ref l1, .ref l2, .ref l3, .ref l4, .ref l5, .int (u.2.1 11 2), .int (msk (u.2.2.2 1)), .long (u.1 9 0)])), (b0, .inr (3, [.ref b1, .ref b2, .int (nI (cntB (u.2.2.2 0) 39))])), (b1, zaI k 39 (u.2.1 9)), (b2, zaZ k 39 (zk (u.2.2.2 0)))], rfl, ⟨rfl, rfl⟩, by rw [ht9]; exact hP9, hD9⟩, hS.F ht9⟩) hS.2.2 dX8_compensation_9
set_option maxHeartbeats 4000000 in
set_option maxRecDepth 100000 in
theorem c_X8_compensation_no (l : Launch) (D : va_G) (k : Nat → ClassId) (sz : Nat) (hm p0 c0 n0 b0 b1 b2 e0 f0 l1 l2 l3 l4 l5 : Nat) (u : zS) (x b : Int32) (hno : (zin x 0 2 && zin b (-4) 8) = false) : Met l yX8_compensation wsX8_compensation ({ frames := 3, cells := 0, slots := 0, locals := 64 } : Room) (va_Pc [.ref hm, .int x, .int b] (zPre D k [(hm, .inr (7, [.ref p0, .ref c0, .ref n0, .ref b0, .ref e0, .ref f0, .ref l1, .ref l2, .ref l3, .ref l4, .ref l5, .int (u.2.1 11 2), .int (msk (u.2.2.2 1)), .long (u.1 9 0)])), (b0, .inr (3, [.ref b1, .ref b2, .int (nI (cntB (u.2.2.2 0) 39))])), (b1, zaI k 39 (u.2.1 9)), (b2, zaZ k 39 (zk (u.2.2.2 0)))] sz zX0)) (zQi D [(hm, .inr (7, [.ref p0, .ref c0, .ref n0, .ref b0, .ref e0, .ref f0, .ref l1, .ref l2, .ref l3, .ref l4, .ref l5, .int (u.2.1 11 2), .int (msk (u.2.2.2 1)), .long (u.1 9 0)])), (b0, .inr (3, [.ref b1, .ref b2, .int (nI (cntB (u.2.2.2 0) 39))])), (b1, zaI k 39 (u.2.1 9)), (b2, zaZ k 39 (zk (u.2.2.2 0)))] sz 0 (fun w : va_W => w = [(hm, .inr (7, [.ref p0, .ref c0, .ref n0, .ref b0, .ref e0, .ref f0, .ref l1, .ref l2, .ref l3, .ref l4, .ref l5, .int (u.2.1 11 2), .int (msk (u.2.2.2 1)), .long (u.1 9 0)])), (b0, .inr (3, [.ref b1, .ref b2, .int (nI (cntB (u.2.2.2 0) 39))])), (b1, zaI k 39 (u.2.1 9)), (b2, zaZ k 39 (zk (u.2.2.2 0)))])) 0 0 (va_A [(hm, .inr (7, [.ref p0, .ref c0, .ref n0, .ref b0, .ref e0, .ref f0, .ref l1, .ref l2, .ref l3, .ref l4, .ref l5, .int (u.2.1 11 2), .int (msk (u.2.2.2 1)), .long (u.1 9 0)])), (b0, .inr (3, [.ref b1, .ref b2, .int (nI (cntB (u.2.2.2 0) 39))])), (b1, zaI k 39 (u.2.1 9)), (b2, zaZ k 39 (zk (u.2.2.2 0)))] sz) := by
  refine Met.ofW (cc := cX8_compensation) (maxL := 3) (ret := (some .int)) (by decide) rfl ?_
  intro p e s m args below meth c s₁ B hml hv
  obtain ⟨rfl, hsz, hP, hK, hD0, hE⟩ := hv
  have hx := B.exec
  have hb := B.bytes
  have hr := B.returns
  have hts := atoms_spec (ws := wsX8_compensation) B.pre
  have hown : s.vm.findClass RX8 = some m.cls := findClass_of_methodNamed B.named
  have hlocks := B.notSynchronized
  subst hsz
  have hD := hD0.self (sz := s.heap.size)
  delta zQi zB
  generalize hAe : va_A [(hm, .inr (7, [.ref p0, .ref c0, .ref n0, .ref b0, .ref e0, .ref f0, .ref l1, .ref l2, .ref l3, .ref l4, .ref l5, .int (u.2.1 11 2), .int (msk (u.2.2.2 1)), .long (u.1 9 0)])), (b0, .inr (3, [.ref b1, .ref b2, .int (nI (cntB (u.2.2.2 0) 39))])), (b1, zaI k 39 (u.2.1 9)), (b2, zaZ k 39 (zk (u.2.2.2 0)))] s.heap.size = A at hD hE ⊢
  have hA : ∀ q : Nat, s.heap.size ≤ q → A q := fun q h => by rw [← hAe]; exact Or.inr h
  have hS : va_S A s.heap s.heap [] := va_S.rf
  have hl := lv_entry [.ref hm, .int x, .int b] (n := 3) (Nat.le_of_ble_eq_true rfl)
  rw [lg_entry_eq]
  generalize (lg_sl [.ref hm, .int x, .int b] ++ List.replicate (3 - (lg_sl [.ref hm, .int x, .int b]).length) Slot.unset).toArray = ls at hl ⊢
  have hl : lv_has ls 3 [(0, .ref hm), (1, .int x), (2, .int b)] := hl
  have hl33 : (Cond.fieldLink RX8 33 "InertialReference" "table" "LInertialReference$CompensationTable;").before #[Value.ref hm, Value.int x, Value.int b] s = true := zw hts 1 rfl
  have hinX8 : ∀ w ∈ u_ws RX8 TX8 14, w ∈ wsX8_compensation := fun w h => List.mem_cons_of_mem _ (List.mem_append_left _ (List.mem_append_right _ h))
  refine lv_aload_n hx hb dX8_compensation_0 rfl (lv_at hl 0 rfl) ?_
  refine va_get (D := D) (ci := 7) (v := .ref b0) (C := RX8) (T := TX8) (N := 14) hx hb hts hinX8 hown hK hP 0 rfl rfl 3 (Nat.le_of_ble_eq_true rfl) hl33 (fun _ h9 => h9) rfl dX8_compensation_1 ?_
  refine lv_iload_n hx hb dX8_compensation_4 rfl (lv_at hl 1 rfl) ?_
  refine lv_iload_n hx hb dX8_compensation_5 rfl (lv_at hl 2 rfl) ?_
  refine z_calli0 (wc := [(b0, .inr (3, [.ref b1, .ref b2, .int (nI (cntB (u.2.2.2 0) 39))])), (b1, zaI k 39 (u.2.1 9)), (b2, zaZ k 39 (zk (u.2.2.2 0)))]) (wr := [(hm, .inr (7, [.ref p0, .ref c0, .ref n0, .ref b0, .ref e0, .ref f0, .ref l1, .ref l2, .ref l3, .ref l4, .ref l5, .int (u.2.1 11 2), .int (msk (u.2.2.2 1)), .long (u.1 9 0)]))]) (va_runV (As := [.int x, .int b]) (rest := []) ⟨hx, hb, hml, hown, hts⟩ (c_X3_value_no l D k s.heap.size b0 b1 b2 (u.2.1 9) (u.2.2.2 0) x b hno) (cwV 2 hts gX8_compensation_X3_value rfl rfl rfl (by decide +kernel) ⟨Nat.le_of_ble_eq_true rfl, Nat.le_of_ble_eq_true rfl⟩) (z_preV (wc := [(b0, .inr (3, [.ref b1, .ref b2, .int (nI (cntB (u.2.2.2 0) 39))])), (b1, zaI k 39 (u.2.1 9)), (b2, zaZ k 39 (zk (u.2.2.2 0)))]) 1 3 hP hD hK [1, 2, 3] rfl rfl rfl rfl zb0 zp0) rfl rfl hl.1 rfl (lv_room (Nat.le_of_ble_eq_true rfl)) dX8_compensation_6 ⟨Nat.zero_le _, Nat.zero_le _⟩) hP hD hS hA [1, 2, 3] [0] rfl rfl rfl (by decide) (fun w H locs hF hP hD hS => ?_)
  subst hF
  have hP : va_P D vwCl [(hm, .inr (7, [.ref p0, .ref c0, .ref n0, .ref b0, .ref e0, .ref f0, .ref l1, .ref l2, .ref l3, .ref l4, .ref l5, .int (u.2.1 11 2), .int (msk (u.2.2.2 1)), .long (u.1 9 0)])), (b0, .inr (3, [.ref b1, .ref b2, .int (nI (cntB (u.2.2.2 0) 39))])), (b1, zaI k 39 (u.2.1 9)), (b2, zaZ k 39 (zk (u.2.2.2 0)))] H := hP
  have hD : va_D A [(hm, .inr (7, [.ref p0, .ref c0, .ref n0, .ref b0, .ref e0, .ref f0, .ref l1, .ref l2, .ref l3, .ref l4, .ref l5, .int (u.2.1 11 2), .int (msk (u.2.2.2 1)), .long (u.1 9 0)])), (b0, .inr (3, [.ref b1, .ref b2, .int (nI (cntB (u.2.2.2 0) 39))])), (b1, zaI k 39 (u.2.1 9)), (b2, zaZ k 39 (zk (u.2.2.2 0)))] := hD
  have hP9 := hP.sub (ws' := [(hm, .inr (7, [.ref p0, .ref c0, .ref n0, .ref b0, .ref e0, .ref f0, .ref l1, .ref l2, .ref l3, .ref l4, .ref l5, .int (u.2.1 11 2), .int (msk (u.2.2.2 1)), .long (u.1 9 0)])), (b0, .inr (3, [.ref b1, .ref b2, .int (nI (cntB (u.2.2.2 0) 39))])), (b1, zaI k 39 (u.2.1 9)), (b2, zaZ k 39 (zk (u.2.2.2 0)))]) [0, 1, 2, 3] rfl
  have hD9 := hD.sub (ws' := [(hm, .inr (7, [.ref p0, .ref c0, .ref n0, .ref b0, .ref e0, .ref f0, .ref l1, .ref l2, .ref l3, .ref l4, .ref l5, .int (u.2.1 11 2), .int (msk (u.2.2.2 1)), .long (u.1 9 0)])), (b0, .inr (3, [.ref b1, .ref b2, .int (nI (cntB (u.2.2.2 0) 39))])), (b1, zaI k 39 (u.2.1 9)), (b2, zaZ k 39 (zk (u.2.2.2 0)))]) [0, 1, 2, 3] (by decide) rfl
  exact W.iret (v := 0) hx hb hr (fun t9 ht9 hW9 => ⟨⟨0, [(hm, .inr (7, [.ref p0, .ref c0, .ref n0, .ref b0, .ref e0, .ref f0, .ref l1, .ref l2, .ref l3, .ref l4, .ref l5, .int (u.2.1 11 2), .int (msk (u.2.2.2 1)), .long (u.1 9 0)])), (b0, .inr (3, [.ref b1, .ref b2, .int (nI (cntB (u.2.2.2 0) 39))])), (b1, zaI k 39 (u.2.1 9)), (b2, zaZ k 39 (zk (u.2.2.2 0)))], rfl, ⟨rfl, rfl⟩, by rw [ht9]; exact hP9, hD9⟩, hS.F ht9⟩) hS.2.2 dX8_compensation_9
set_option maxHeartbeats 4000000 in
set_option maxRecDepth 100000 in
theorem c_X8_forgetBin_ok (l : Launch) (D : va_G) (k : Nat → ClassId) (sz : Nat) (hm p0 c0 n0 b0 b1 b2 e0 f0 l1 l2 l3 l4 l5 : Nat) (u : zS) (b : Int32) (h1 : zin b (-4) 8 = true) (hz : ∀ j, u.2.2.2 0 j = false → u.2.1 9 j = 0) : Met l yX8_forgetBin wsX8_forgetBin ({ frames := 3, cells := 0, slots := 0, locals := 65 } : Room) (va_Pc [.ref hm, .int b] (zPre D k [(hm, .inr (7, [.ref p0, .ref c0, .ref n0, .ref b0, .ref e0, .ref f0, .ref l1, .ref l2, .ref l3, .ref l4, .ref l5, .int (u.2.1 11 2), .int (msk (u.2.2.2 1)), .long (u.1 9 0)])), (b0, .inr (3, [.ref b1, .ref b2, .int (nI (cntB (u.2.2.2 0) 39))])), (b1, zaI k 39 (u.2.1 9)), (b2, zaZ k 39 (zk (u.2.2.2 0)))] sz zX0)) (zQi D [(hm, .inr (7, [.ref p0, .ref c0, .ref n0, .ref b0, .ref e0, .ref f0, .ref l1, .ref l2, .ref l3, .ref l4, .ref l5, .int (u.2.1 11 2), .int (msk (u.2.2.2 1)), .long (u.1 9 0)])), (b0, .inr (3, [.ref b1, .ref b2, .int (nI (cntB (u.2.2.2 0) 39))])), (b1, zaI k 39 (u.2.1 9)), (b2, zaZ k 39 (zk (u.2.2.2 0)))] sz (nI (cntB (u.2.2.2 0) 39) - nI (cntB (clrK (u.2.2.2 0) (cb b) 3) 39)) (fun w : va_W => w = [(hm, .inr (7, [.ref p0, .ref c0, .ref n0, .ref b0, .ref e0, .ref f0, .ref l1, .ref l2, .ref l3, .ref l4, .ref l5, .int (u.2.1 11 2), .int (msk (u.2.2.2 1)), .long (u.1 9 0)])), (b0, .inr (3, [.ref b1, .ref b2, .int (nI (cntB (clrK (u.2.2.2 0) (cb b) 3) 39))])), (b1, zaI k 39 (clrV (u.2.1 9) (cb b) 3)), (b2, zaZ k 39 (zk (clrK (u.2.2.2 0) (cb b) 3)))])) 0 0 (va_A [(hm, .inr (7, [.ref p0, .ref c0, .ref n0, .ref b0, .ref e0, .ref f0, .ref l1, .ref l2, .ref l3, .ref l4, .ref l5, .int (u.2.1 11 2), .int (msk (u.2.2.2 1)), .long (u.1 9 0)])), (b0, .inr (3, [.ref b1, .ref b2, .int (nI (cntB (u.2.2.2 0) 39))])), (b1, zaI k 39 (u.2.1 9)), (b2, zaZ k 39 (zk (u.2.2.2 0)))] sz) := by
  refine Met.ofW (cc := cX8_forgetBin) (maxL := 2) (ret := (some .int)) (by decide) rfl ?_
  intro p e s m args below meth c s₁ B hml hv
  obtain ⟨rfl, hsz, hP, hK, hD0, hE⟩ := hv
  have hx := B.exec
  have hb := B.bytes
  have hr := B.returns
  have hts := atoms_spec (ws := wsX8_forgetBin) B.pre
  have hown : s.vm.findClass RX8 = some m.cls := findClass_of_methodNamed B.named
  have hlocks := B.notSynchronized
  subst hsz
  have hD := hD0.self (sz := s.heap.size)
  delta zQi zB
  generalize hAe : va_A [(hm, .inr (7, [.ref p0, .ref c0, .ref n0, .ref b0, .ref e0, .ref f0, .ref l1, .ref l2, .ref l3, .ref l4, .ref l5, .int (u.2.1 11 2), .int (msk (u.2.2.2 1)), .long (u.1 9 0)])), (b0, .inr (3, [.ref b1, .ref b2, .int (nI (cntB (u.2.2.2 0) 39))])), (b1, zaI k 39 (u.2.1 9)), (b2, zaZ k 39 (zk (u.2.2.2 0)))] s.heap.size = A at hD hE ⊢
  have hA : ∀ q : Nat, s.heap.size ≤ q → A q := fun q h => by rw [← hAe]; exact Or.inr h
  have hS : va_S A s.heap s.heap [] := va_S.rf
  have hl := lv_entry [.ref hm, .int b] (n := 2) (Nat.le_of_ble_eq_true rfl)
  rw [lg_entry_eq]
  generalize (lg_sl [.ref hm, .int b] ++ List.replicate (2 - (lg_sl [.ref hm, .int b]).length) Slot.unset).toArray = ls at hl ⊢
  have hl : lv_has ls 2 [(0, .ref hm), (1, .int b)] := hl
  have hl33 : (Cond.fieldLink RX8 33 "InertialReference" "table" "LInertialReference$CompensationTable;").before #[Value.ref hm, Value.int b] s = true := zw hts 1 rfl
  have hinX8 : ∀ w ∈ u_ws RX8 TX8 14, w ∈ wsX8_forgetBin := fun w h => List.mem_cons_of_mem _ (List.mem_append_left _ (List.mem_append_right _ h))
  refine lv_aload_n hx hb dX8_forgetBin_0 rfl (lv_at hl 0 rfl) ?_
  refine va_get (D := D) (ci := 7) (v := .ref b0) (C := RX8) (T := TX8) (N := 14) hx hb hts hinX8 hown hK hP 0 rfl rfl 3 (Nat.le_of_ble_eq_true rfl) hl33 (fun _ h9 => h9) rfl dX8_forgetBin_1 ?_
  refine lv_iload_n hx hb dX8_forgetBin_4 rfl (lv_at hl 1 rfl) ?_
  refine z_calli0 (wc := [(b0, .inr (3, [.ref b1, .ref b2, .int (nI (cntB (u.2.2.2 0) 39))])), (b1, zaI k 39 (u.2.1 9)), (b2, zaZ k 39 (zk (u.2.2.2 0)))]) (wr := [(hm, .inr (7, [.ref p0, .ref c0, .ref n0, .ref b0, .ref e0, .ref f0, .ref l1, .ref l2, .ref l3, .ref l4, .ref l5, .int (u.2.1 11 2), .int (msk (u.2.2.2 1)), .long (u.1 9 0)]))]) (va_runV (As := [.int b]) (rest := []) ⟨hx, hb, hml, hown, hts⟩ (c_X3_removeBin_ok l D k s.heap.size b0 b1 b2 (u.2.1 9) (u.2.2.2 0) b h1 hz) (cwV 1 hts gX8_forgetBin_X3_removeBin rfl rfl rfl (by decide +kernel) ⟨Nat.le_of_ble_eq_true rfl, Nat.le_of_ble_eq_true rfl⟩) (z_preV (wc := [(b0, .inr (3, [.ref b1, .ref b2, .int (nI (cntB (u.2.2.2 0) 39))])), (b1, zaI k 39 (u.2.1 9)), (b2, zaZ k 39 (zk (u.2.2.2 0)))]) 1 3 hP hD hK [1, 2, 3] rfl rfl rfl rfl zb0 zp0) rfl rfl hl.1 rfl (lv_room (Nat.le_of_ble_eq_true rfl)) dX8_forgetBin_5 ⟨Nat.zero_le _, Nat.zero_le _⟩) hP hD hS hA [1, 2, 3] [0] rfl rfl rfl (by decide) (fun w H locs hF hP hD hS => ?_)
  subst hF
  have hP : va_P D vwCl [(hm, .inr (7, [.ref p0, .ref c0, .ref n0, .ref b0, .ref e0, .ref f0, .ref l1, .ref l2, .ref l3, .ref l4, .ref l5, .int (u.2.1 11 2), .int (msk (u.2.2.2 1)), .long (u.1 9 0)])), (b0, .inr (3, [.ref b1, .ref b2, .int (nI (cntB (clrK (u.2.2.2 0) (cb b) 3) 39))])), (b1, zaI k 39 (clrV (u.2.1 9) (cb b) 3)), (b2, zaZ k 39 (zk (clrK (u.2.2.2 0) (cb b) 3)))] H := hP
  have hD : va_D A [(hm, .inr (7, [.ref p0, .ref c0, .ref n0, .ref b0, .ref e0, .ref f0, .ref l1, .ref l2, .ref l3, .ref l4, .ref l5, .int (u.2.1 11 2), .int (msk (u.2.2.2 1)), .long (u.1 9 0)])), (b0, .inr (3, [.ref b1, .ref b2, .int (nI (cntB (clrK (u.2.2.2 0) (cb b) 3) 39))])), (b1, zaI k 39 (clrV (u.2.1 9) (cb b) 3)), (b2, zaZ k 39 (zk (clrK (u.2.2.2 0) (cb b) 3)))] := hD
  have hP9 := hP.sub (ws' := [(hm, .inr (7, [.ref p0, .ref c0, .ref n0, .ref b0, .ref e0, .ref f0, .ref l1, .ref l2, .ref l3, .ref l4, .ref l5, .int (u.2.1 11 2), .int (msk (u.2.2.2 1)), .long (u.1 9 0)])), (b0, .inr (3, [.ref b1, .ref b2, .int (nI (cntB (clrK (u.2.2.2 0) (cb b) 3) 39))])), (b1, zaI k 39 (clrV (u.2.1 9) (cb b) 3)), (b2, zaZ k 39 (zk (clrK (u.2.2.2 0) (cb b) 3)))]) [0, 1, 2, 3] rfl
  have hD9 := hD.sub (ws' := [(hm, .inr (7, [.ref p0, .ref c0, .ref n0, .ref b0, .ref e0, .ref f0, .ref l1, .ref l2, .ref l3, .ref l4, .ref l5, .int (u.2.1 11 2), .int (msk (u.2.2.2 1)), .long (u.1 9 0)])), (b0, .inr (3, [.ref b1, .ref b2, .int (nI (cntB (clrK (u.2.2.2 0) (cb b) 3) 39))])), (b1, zaI k 39 (clrV (u.2.1 9) (cb b) 3)), (b2, zaZ k 39 (zk (clrK (u.2.2.2 0) (cb b) 3)))]) [0, 1, 2, 3] (by decide) rfl
  exact W.iret (v := nI (cntB (u.2.2.2 0) 39) - nI (cntB (clrK (u.2.2.2 0) (cb b) 3) 39)) hx hb hr (fun t9 ht9 hW9 => ⟨⟨(nI (cntB (u.2.2.2 0) 39) - nI (cntB (clrK (u.2.2.2 0) (cb b) 3) 39)), [(hm, .inr (7, [.ref p0, .ref c0, .ref n0, .ref b0, .ref e0, .ref f0, .ref l1, .ref l2, .ref l3, .ref l4, .ref l5, .int (u.2.1 11 2), .int (msk (u.2.2.2 1)), .long (u.1 9 0)])), (b0, .inr (3, [.ref b1, .ref b2, .int (nI (cntB (clrK (u.2.2.2 0) (cb b) 3) 39))])), (b1, zaI k 39 (clrV (u.2.1 9) (cb b) 3)), (b2, zaZ k 39 (zk (clrK (u.2.2.2 0) (cb b) 3)))], rfl, ⟨rfl, rfl⟩, by rw [ht9]; exact hP9, hD9⟩, hS.F ht9⟩) hS.2.2 dX8_forgetBin_8
set_option maxHeartbeats 4000000 in
set_option maxRecDepth 100000 in
theorem c_X8_forgetBin_no (l : Launch) (D : va_G) (k : Nat → ClassId) (sz : Nat) (hm p0 c0 n0 b0 b1 b2 e0 f0 l1 l2 l3 l4 l5 : Nat) (u : zS) (b : Int32) (hno : zin b (-4) 8 = false) : Met l yX8_forgetBin wsX8_forgetBin ({ frames := 3, cells := 0, slots := 0, locals := 65 } : Room) (va_Pc [.ref hm, .int b] (zPre D k [(hm, .inr (7, [.ref p0, .ref c0, .ref n0, .ref b0, .ref e0, .ref f0, .ref l1, .ref l2, .ref l3, .ref l4, .ref l5, .int (u.2.1 11 2), .int (msk (u.2.2.2 1)), .long (u.1 9 0)])), (b0, .inr (3, [.ref b1, .ref b2, .int (nI (cntB (u.2.2.2 0) 39))])), (b1, zaI k 39 (u.2.1 9)), (b2, zaZ k 39 (zk (u.2.2.2 0)))] sz zX0)) (zQi D [(hm, .inr (7, [.ref p0, .ref c0, .ref n0, .ref b0, .ref e0, .ref f0, .ref l1, .ref l2, .ref l3, .ref l4, .ref l5, .int (u.2.1 11 2), .int (msk (u.2.2.2 1)), .long (u.1 9 0)])), (b0, .inr (3, [.ref b1, .ref b2, .int (nI (cntB (u.2.2.2 0) 39))])), (b1, zaI k 39 (u.2.1 9)), (b2, zaZ k 39 (zk (u.2.2.2 0)))] sz 0 (fun w : va_W => w = [(hm, .inr (7, [.ref p0, .ref c0, .ref n0, .ref b0, .ref e0, .ref f0, .ref l1, .ref l2, .ref l3, .ref l4, .ref l5, .int (u.2.1 11 2), .int (msk (u.2.2.2 1)), .long (u.1 9 0)])), (b0, .inr (3, [.ref b1, .ref b2, .int (nI (cntB (u.2.2.2 0) 39))])), (b1, zaI k 39 (u.2.1 9)), (b2, zaZ k 39 (zk (u.2.2.2 0)))])) 0 0 (va_A [(hm, .inr (7, [.ref p0, .ref c0, .ref n0, .ref b0, .ref e0, .ref f0, .ref l1, .ref l2, .ref l3, .ref l4, .ref l5, .int (u.2.1 11 2), .int (msk (u.2.2.2 1)), .long (u.1 9 0)])), (b0, .inr (3, [.ref b1, .ref b2, .int (nI (cntB (u.2.2.2 0) 39))])), (b1, zaI k 39 (u.2.1 9)), (b2, zaZ k 39 (zk (u.2.2.2 0)))] sz) := by
  refine Met.ofW (cc := cX8_forgetBin) (maxL := 2) (ret := (some .int)) (by decide) rfl ?_
  intro p e s m args below meth c s₁ B hml hv
  obtain ⟨rfl, hsz, hP, hK, hD0, hE⟩ := hv
  have hx := B.exec
  have hb := B.bytes
  have hr := B.returns
  have hts := atoms_spec (ws := wsX8_forgetBin) B.pre
  have hown : s.vm.findClass RX8 = some m.cls := findClass_of_methodNamed B.named
  have hlocks := B.notSynchronized
  subst hsz
  have hD := hD0.self (sz := s.heap.size)
  delta zQi zB
  generalize hAe : va_A [(hm, .inr (7, [.ref p0, .ref c0, .ref n0, .ref b0, .ref e0, .ref f0, .ref l1, .ref l2, .ref l3, .ref l4, .ref l5, .int (u.2.1 11 2), .int (msk (u.2.2.2 1)), .long (u.1 9 0)])), (b0, .inr (3, [.ref b1, .ref b2, .int (nI (cntB (u.2.2.2 0) 39))])), (b1, zaI k 39 (u.2.1 9)), (b2, zaZ k 39 (zk (u.2.2.2 0)))] s.heap.size = A at hD hE ⊢
  have hA : ∀ q : Nat, s.heap.size ≤ q → A q := fun q h => by rw [← hAe]; exact Or.inr h
  have hS : va_S A s.heap s.heap [] := va_S.rf
  have hl := lv_entry [.ref hm, .int b] (n := 2) (Nat.le_of_ble_eq_true rfl)
  rw [lg_entry_eq]
  generalize (lg_sl [.ref hm, .int b] ++ List.replicate (2 - (lg_sl [.ref hm, .int b]).length) Slot.unset).toArray = ls at hl ⊢
  have hl : lv_has ls 2 [(0, .ref hm), (1, .int b)] := hl
  have hl33 : (Cond.fieldLink RX8 33 "InertialReference" "table" "LInertialReference$CompensationTable;").before #[Value.ref hm, Value.int b] s = true := zw hts 1 rfl
  have hinX8 : ∀ w ∈ u_ws RX8 TX8 14, w ∈ wsX8_forgetBin := fun w h => List.mem_cons_of_mem _ (List.mem_append_left _ (List.mem_append_right _ h))
  refine lv_aload_n hx hb dX8_forgetBin_0 rfl (lv_at hl 0 rfl) ?_
  refine va_get (D := D) (ci := 7) (v := .ref b0) (C := RX8) (T := TX8) (N := 14) hx hb hts hinX8 hown hK hP 0 rfl rfl 3 (Nat.le_of_ble_eq_true rfl) hl33 (fun _ h9 => h9) rfl dX8_forgetBin_1 ?_
  refine lv_iload_n hx hb dX8_forgetBin_4 rfl (lv_at hl 1 rfl) ?_
  refine z_calli0 (wc := [(b0, .inr (3, [.ref b1, .ref b2, .int (nI (cntB (u.2.2.2 0) 39))])), (b1, zaI k 39 (u.2.1 9)), (b2, zaZ k 39 (zk (u.2.2.2 0)))]) (wr := [(hm, .inr (7, [.ref p0, .ref c0, .ref n0, .ref b0, .ref e0, .ref f0, .ref l1, .ref l2, .ref l3, .ref l4, .ref l5, .int (u.2.1 11 2), .int (msk (u.2.2.2 1)), .long (u.1 9 0)]))]) (va_runV (As := [.int b]) (rest := []) ⟨hx, hb, hml, hown, hts⟩ (c_X3_removeBin_no l D k s.heap.size b0 b1 b2 (u.2.1 9) (u.2.2.2 0) b hno) (cwV 1 hts gX8_forgetBin_X3_removeBin rfl rfl rfl (by decide +kernel) ⟨Nat.le_of_ble_eq_true rfl, Nat.le_of_ble_eq_true rfl⟩) (z_preV (wc := [(b0, .inr (3, [.ref b1, .ref b2, .int (nI (cntB (u.2.2.2 0) 39))])), (b1, zaI k 39 (u.2.1 9)), (b2, zaZ k 39 (zk (u.2.2.2 0)))]) 1 3 hP hD hK [1, 2, 3] rfl rfl rfl rfl zb0 zp0) rfl rfl hl.1 rfl (lv_room (Nat.le_of_ble_eq_true rfl)) dX8_forgetBin_5 ⟨Nat.zero_le _, Nat.zero_le _⟩) hP hD hS hA [1, 2, 3] [0] rfl rfl rfl (by decide) (fun w H locs hF hP hD hS => ?_)
  subst hF
  have hP : va_P D vwCl [(hm, .inr (7, [.ref p0, .ref c0, .ref n0, .ref b0, .ref e0, .ref f0, .ref l1, .ref l2, .ref l3, .ref l4, .ref l5, .int (u.2.1 11 2), .int (msk (u.2.2.2 1)), .long (u.1 9 0)])), (b0, .inr (3, [.ref b1, .ref b2, .int (nI (cntB (u.2.2.2 0) 39))])), (b1, zaI k 39 (u.2.1 9)), (b2, zaZ k 39 (zk (u.2.2.2 0)))] H := hP
  have hD : va_D A [(hm, .inr (7, [.ref p0, .ref c0, .ref n0, .ref b0, .ref e0, .ref f0, .ref l1, .ref l2, .ref l3, .ref l4, .ref l5, .int (u.2.1 11 2), .int (msk (u.2.2.2 1)), .long (u.1 9 0)])), (b0, .inr (3, [.ref b1, .ref b2, .int (nI (cntB (u.2.2.2 0) 39))])), (b1, zaI k 39 (u.2.1 9)), (b2, zaZ k 39 (zk (u.2.2.2 0)))] := hD
  have hP9 := hP.sub (ws' := [(hm, .inr (7, [.ref p0, .ref c0, .ref n0, .ref b0, .ref e0, .ref f0, .ref l1, .ref l2, .ref l3, .ref l4, .ref l5, .int (u.2.1 11 2), .int (msk (u.2.2.2 1)), .long (u.1 9 0)])), (b0, .inr (3, [.ref b1, .ref b2, .int (nI (cntB (u.2.2.2 0) 39))])), (b1, zaI k 39 (u.2.1 9)), (b2, zaZ k 39 (zk (u.2.2.2 0)))]) [0, 1, 2, 3] rfl
  have hD9 := hD.sub (ws' := [(hm, .inr (7, [.ref p0, .ref c0, .ref n0, .ref b0, .ref e0, .ref f0, .ref l1, .ref l2, .ref l3, .ref l4, .ref l5, .int (u.2.1 11 2), .int (msk (u.2.2.2 1)), .long (u.1 9 0)])), (b0, .inr (3, [.ref b1, .ref b2, .int (nI (cntB (u.2.2.2 0) 39))])), (b1, zaI k 39 (u.2.1 9)), (b2, zaZ k 39 (zk (u.2.2.2 0)))]) [0, 1, 2, 3] (by decide) rfl
  exact W.iret (v := 0) hx hb hr (fun t9 ht9 hW9 => ⟨⟨0, [(hm, .inr (7, [.ref p0, .ref c0, .ref n0, .ref b0, .ref e0, .ref f0, .ref l1, .ref l2, .ref l3, .ref l4, .ref l5, .int (u.2.1 11 2), .int (msk (u.2.2.2 1)), .long (u.1 9 0)])), (b0, .inr (3, [.ref b1, .ref b2, .int (nI (cntB (u.2.2.2 0) 39))])), (b1, zaI k 39 (u.2.1 9)), (b2, zaZ k 39 (zk (u.2.2.2 0)))], rfl, ⟨rfl, rfl⟩, by rw [ht9]; exact hP9, hD9⟩, hS.F ht9⟩) hS.2.2 dX8_forgetBin_8
set_option maxHeartbeats 4000000 in
set_option maxRecDepth 100000 in
theorem c_X8_errorAngle (l : Launch) (D : va_G) (k : Nat → ClassId) (sz : Nat) (hm p0 p1 p2 p3 p4 p5 c0 n0 b0 e0 e1 e2 e3 e4 e5 e6 e7 g0 g1 g2 g3 g4 g5 q0 f0 l1 l2 l3 l4 l5 : Nat) (u : zS) (xS xI xR : Nat → Int64)  (hq : (qang2 (u.1 0) (u.1 1)).toInt < 2 ^ 62) : Met l yX8_errorAngle wsX8_errorAngle ({ frames := 3, cells := 0, slots := 0, locals := 72 } : Room) (va_Pc [.ref hm] (zPre D k [(hm, .inr (7, [.ref p0, .ref c0, .ref n0, .ref b0, .ref e0, .ref f0, .ref l1, .ref l2, .ref l3, .ref l4, .ref l5, .int (u.2.1 11 2), .int (msk (u.2.2.2 1)), .long (u.1 9 0)])), (p0, .inr (0, [.ref p1, .ref p2, .ref p3, .ref p4, .ref p5])), (p1, zaJ k 4 (u.1 0)), (e0, .inr (4, [.ref g0, .ref q0, .ref e1, .ref e2, .ref e3, .ref e4, .ref e5, .ref e6, .ref e7, .int (u.2.1 11 3), .int (u.2.1 11 4), .int (u.2.1 11 5)])), (g0, .inr (0, [.ref g1, .ref g2, .ref g3, .ref g4, .ref g5])), (g1, zaJ k 4 (u.1 1)), (g2, zaJ k 4 xS), (g3, zaJ k 4 xI), (g4, zaJ k 4 xR)] sz zN)) (zQl D [(hm, .inr (7, [.ref p0, .ref c0, .ref n0, .ref b0, .ref e0, .ref f0, .ref l1, .ref l2, .ref l3, .ref l4, .ref l5, .int (u.2.1 11 2), .int (msk (u.2.2.2 1)), .long (u.1 9 0)])), (p0, .inr (0, [.ref p1, .ref p2, .ref p3, .ref p4, .ref p5])), (p1, zaJ k 4 (u.1 0)), (e0, .inr (4, [.ref g0, .ref q0, .ref e1, .ref e2, .ref e3, .ref e4, .ref e5, .ref e6, .ref e7, .int (u.2.1 11 3), .int (u.2.1 11 4), .int (u.2.1 11 5)])), (g0, .inr (0, [.ref g1, .ref g2, .ref g3, .ref g4, .ref g5])), (g1, zaJ k 4 (u.1 1)), (g2, zaJ k 4 xS), (g3, zaJ k 4 xI), (g4, zaJ k 4 xR)] sz (qang (u.1 0) (u.1 1)) (fun w : va_W => ∃ (xI2 xR2 : Nat → Int64), w = [(hm, .inr (7, [.ref p0, .ref c0, .ref n0, .ref b0, .ref e0, .ref f0, .ref l1, .ref l2, .ref l3, .ref l4, .ref l5, .int (u.2.1 11 2), .int (msk (u.2.2.2 1)), .long (u.1 9 0)])), (p0, .inr (0, [.ref p1, .ref p2, .ref p3, .ref p4, .ref p5])), (p1, zaJ k 4 (u.1 0)), (e0, .inr (4, [.ref g0, .ref q0, .ref e1, .ref e2, .ref e3, .ref e4, .ref e5, .ref e6, .ref e7, .int (u.2.1 11 3), .int (u.2.1 11 4), .int (u.2.1 11 5)])), (g0, .inr (0, [.ref g1, .ref g2, .ref g3, .ref g4, .ref g5])), (g1, zaJ k 4 (u.1 1)), (g2, zaJ k 4 xS), (g3, zaJ k 4 xI2), (g4, zaJ k 4 xR2)])) 0 0 (va_A [(hm, .inr (7, [.ref p0, .ref c0, .ref n0, .ref b0, .ref e0, .ref f0, .ref l1, .ref l2, .ref l3, .ref l4, .ref l5, .int (u.2.1 11 2), .int (msk (u.2.2.2 1)), .long (u.1 9 0)])), (p0, .inr (0, [.ref p1, .ref p2, .ref p3, .ref p4, .ref p5])), (p1, zaJ k 4 (u.1 0)), (e0, .inr (4, [.ref g0, .ref q0, .ref e1, .ref e2, .ref e3, .ref e4, .ref e5, .ref e6, .ref e7, .int (u.2.1 11 3), .int (u.2.1 11 4), .int (u.2.1 11 5)])), (g0, .inr (0, [.ref g1, .ref g2, .ref g3, .ref g4, .ref g5])), (g1, zaJ k 4 (u.1 1)), (g2, zaJ k 4 xS), (g3, zaJ k 4 xI), (g4, zaJ k 4 xR)] sz) := by
  refine Met.ofW (cc := cX8_errorAngle) (maxL := 1) (ret := (some .long)) (by decide) rfl ?_
  intro p e s m args below meth c s₁ B hml hv
  obtain ⟨rfl, hsz, hP, hK, hD0, hE⟩ := hv
  have hx := B.exec
  have hb := B.bytes
  have hr := B.returns
  have hts := atoms_spec (ws := wsX8_errorAngle) B.pre
  have hown : s.vm.findClass RX8 = some m.cls := findClass_of_methodNamed B.named
  have hlocks := B.notSynchronized
  subst hsz
  have hD := hD0.self (sz := s.heap.size)
  delta zQl zB
  generalize hAe : va_A [(hm, .inr (7, [.ref p0, .ref c0, .ref n0, .ref b0, .ref e0, .ref f0, .ref l1, .ref l2, .ref l3, .ref l4, .ref l5, .int (u.2.1 11 2), .int (msk (u.2.2.2 1)), .long (u.1 9 0)])), (p0, .inr (0, [.ref p1, .ref p2, .ref p3, .ref p4, .ref p5])), (p1, zaJ k 4 (u.1 0)), (e0, .inr (4, [.ref g0, .ref q0, .ref e1, .ref e2, .ref e3, .ref e4, .ref e5, .ref e6, .ref e7, .int (u.2.1 11 3), .int (u.2.1 11 4), .int (u.2.1 11 5)])), (g0, .inr (0, [.ref g1, .ref g2, .ref g3, .ref g4, .ref g5])), (g1, zaJ k 4 (u.1 1)), (g2, zaJ k 4 xS), (g3, zaJ k 4 xI), (g4, zaJ k 4 xR)] s.heap.size = A at hD hE ⊢
  have hA : ∀ q : Nat, s.heap.size ≤ q → A q := fun q h => by rw [← hAe]; exact Or.inr h
  have hS : va_S A s.heap s.heap [] := va_S.rf
  have hl := lv_entry [.ref hm] (n := 1) (Nat.le_of_ble_eq_true rfl)
  rw [lg_entry_eq]
  generalize (lg_sl [.ref hm] ++ List.replicate (1 - (lg_sl [.ref hm]).length) Slot.unset).toArray = ls at hl ⊢
  have hl : lv_has ls 1 [(0, .ref hm)] := hl
  have hl40 : (Cond.fieldLink RX8 40 "InertialReference" "estimator" "LInertialReference$Estimator;").before #[Value.ref hm] s = true := zw hts 1 rfl
  have hinX8 : ∀ w ∈ u_ws RX8 TX8 14, w ∈ wsX8_errorAngle := fun w h => List.mem_cons_of_mem _ (List.mem_append_left _ (List.mem_append_left _ (List.mem_append_right _ h)))
  have hl196 : (Cond.fieldLinkNest RX8 196 "InertialReference$Estimator" "attitude" "LInertialReference$Attitude;" "InertialReference").before #[Value.ref hm] s = true := va_Nw.use rfl (zn_RX8_196 hE)
  have hinX4 : ∀ w ∈ u_ws RX4 TX4 12, w ∈ wsX8_errorAngle := fun w h => List.mem_cons_of_mem _ (List.mem_append_left _ (List.mem_append_right _ h))
  have hl10 : (Cond.fieldLink RX8 10 "InertialReference" "trueAttitude" "LInertialReference$Attitude;").before #[Value.ref hm] s = true := zw hts 2 rfl
  have hl199 : (Cond.fieldLinkNest RX8 199 "InertialReference$Attitude" "parts" "[J" "InertialReference").before #[Value.ref hm] s = true := va_Nw.use rfl (zn_RX8_199 hE)
  have hinX0 : ∀ w ∈ u_ws RX0 TX0 5, w ∈ wsX8_errorAngle := fun w h => List.mem_cons_of_mem _ (List.mem_append_right _ h)
  refine lv_aload_n hx hb dX8_errorAngle_0 rfl (lv_at hl 0 rfl) ?_
  refine va_get (D := D) (ci := 7) (v := .ref e0) (C := RX8) (T := TX8) (N := 14) hx hb hts hinX8 hown hK hP 0 rfl rfl 4 (Nat.le_of_ble_eq_true rfl) hl40 (fun _ h9 => h9) rfl dX8_errorAngle_1 ?_
  refine va_getN (D := D) (ci := 4) (v := .ref g0) (C := RX4) (T := TX4) (N := 12) hx hb hts hinX4 hown hK hP 3 rfl rfl 0 (Nat.le_of_ble_eq_true rfl) hl196 (fun _ h9 => h9) rfl dX8_errorAngle_4 ?_
  refine lv_aload_n hx hb dX8_errorAngle_7 rfl (lv_at hl 0 rfl) ?_
  refine va_get (D := D) (ci := 7) (v := .ref p0) (C := RX8) (T := TX8) (N := 14) hx hb hts hinX8 hown hK hP 0 rfl rfl 0 (Nat.le_of_ble_eq_true rfl) hl10 (fun _ h9 => h9) rfl dX8_errorAngle_8 ?_
  refine va_getN (D := D) (ci := 0) (v := .ref p1) (C := RX0) (T := TX0) (N := 5) hx hb hts hinX0 hown hK hP 1 rfl rfl 0 (Nat.le_of_ble_eq_true rfl) hl199 (fun _ h9 => h9) rfl dX8_errorAngle_11 ?_
  refine z_calll0 (wc := [(g0, .inr (0, [.ref g1, .ref g2, .ref g3, .ref g4, .ref g5])), (g1, zaJ k 4 (u.1 1)), (g2, zaJ k 4 xS), (g3, zaJ k 4 xI), (g4, zaJ k 4 xR), (p1, zaJ k 4 (u.1 0))]) (wr := [(hm, .inr (7, [.ref p0, .ref c0, .ref n0, .ref b0, .ref e0, .ref f0, .ref l1, .ref l2, .ref l3, .ref l4, .ref l5, .int (u.2.1 11 2), .int (msk (u.2.2.2 1)), .long (u.1 9 0)])), (p0, .inr (0, [.ref p1, .ref p2, .ref p3, .ref p4, .ref p5])), (e0, .inr (4, [.ref g0, .ref q0, .ref e1, .ref e2, .ref e3, .ref e4, .ref e5, .ref e6, .ref e7, .int (u.2.1 11 3), .int (u.2.1 11 4), .int (u.2.1 11 5)]))]) (va_runV (As := [.ref p1]) (rest := []) ⟨hx, hb, hml, hown, hts⟩ (c_X0_angleFrom l D k s.heap.size g0 g1 g2 g3 g4 g5 0 0 0 p1 (u.1 1) xS xI xR (fun _ => 0) (fun _ => 0) (fun _ => 0) (u.1 0) hq) (cwV 1 hts gX8_errorAngle_X0_angleFrom rfl rfl rfl (by decide +kernel) ⟨Nat.le_of_ble_eq_true rfl, Nat.le_of_ble_eq_true rfl⟩) (z_preV (wc := [(g0, .inr (0, [.ref g1, .ref g2, .ref g3, .ref g4, .ref g5])), (g1, zaJ k 4 (u.1 1)), (g2, zaJ k 4 xS), (g3, zaJ k 4 xI), (g4, zaJ k 4 xR), (p1, zaJ k 4 (u.1 0))]) 4 0 hP hD hK [4, 5, 6, 7, 8, 2] rfl rfl rfl rfl zb0 zp0) rfl rfl hl.1 rfl (lv_room (Nat.le_of_ble_eq_true rfl)) dX8_errorAngle_14 ⟨Nat.zero_le _, Nat.zero_le _⟩) hP hD hS hA [4, 5, 6, 7, 8, 2] [0, 1, 3] rfl rfl rfl (by decide) (fun w H locs hF hP hD hS => ?_)
  obtain ⟨fI2_1, fR2_2, rfl⟩ := hF
  have hP : va_P D vwCl [(hm, .inr (7, [.ref p0, .ref c0, .ref n0, .ref b0, .ref e0, .ref f0, .ref l1, .ref l2, .ref l3, .ref l4, .ref l5, .int (u.2.1 11 2), .int (msk (u.2.2.2 1)), .long (u.1 9 0)])), (p0, .inr (0, [.ref p1, .ref p2, .ref p3, .ref p4, .ref p5])), (e0, .inr (4, [.ref g0, .ref q0, .ref e1, .ref e2, .ref e3, .ref e4, .ref e5, .ref e6, .ref e7, .int (u.2.1 11 3), .int (u.2.1 11 4), .int (u.2.1 11 5)])), (g0, .inr (0, [.ref g1, .ref g2, .ref g3, .ref g4, .ref g5])), (g1, zaJ k 4 (u.1 1)), (g2, zaJ k 4 xS), (g3, zaJ k 4 fI2_1), (g4, zaJ k 4 fR2_2), (p1, zaJ k 4 (u.1 0))] H := hP
  have hD : va_D A [(hm, .inr (7, [.ref p0, .ref c0, .ref n0, .ref b0, .ref e0, .ref f0, .ref l1, .ref l2, .ref l3, .ref l4, .ref l5, .int (u.2.1 11 2), .int (msk (u.2.2.2 1)), .long (u.1 9 0)])), (p0, .inr (0, [.ref p1, .ref p2, .ref p3, .ref p4, .ref p5])), (e0, .inr (4, [.ref g0, .ref q0, .ref e1, .ref e2, .ref e3, .ref e4, .ref e5, .ref e6, .ref e7, .int (u.2.1 11 3), .int (u.2.1 11 4), .int (u.2.1 11 5)])), (g0, .inr (0, [.ref g1, .ref g2, .ref g3, .ref g4, .ref g5])), (g1, zaJ k 4 (u.1 1)), (g2, zaJ k 4 xS), (g3, zaJ k 4 fI2_1), (g4, zaJ k 4 fR2_2), (p1, zaJ k 4 (u.1 0))] := hD
  have hP9 := hP.sub (ws' := [(hm, .inr (7, [.ref p0, .ref c0, .ref n0, .ref b0, .ref e0, .ref f0, .ref l1, .ref l2, .ref l3, .ref l4, .ref l5, .int (u.2.1 11 2), .int (msk (u.2.2.2 1)), .long (u.1 9 0)])), (p0, .inr (0, [.ref p1, .ref p2, .ref p3, .ref p4, .ref p5])), (p1, zaJ k 4 (u.1 0)), (e0, .inr (4, [.ref g0, .ref q0, .ref e1, .ref e2, .ref e3, .ref e4, .ref e5, .ref e6, .ref e7, .int (u.2.1 11 3), .int (u.2.1 11 4), .int (u.2.1 11 5)])), (g0, .inr (0, [.ref g1, .ref g2, .ref g3, .ref g4, .ref g5])), (g1, zaJ k 4 (u.1 1)), (g2, zaJ k 4 xS), (g3, zaJ k 4 fI2_1), (g4, zaJ k 4 fR2_2)]) [0, 1, 8, 2, 3, 4, 5, 6, 7] rfl
  have hD9 := hD.sub (ws' := [(hm, .inr (7, [.ref p0, .ref c0, .ref n0, .ref b0, .ref e0, .ref f0, .ref l1, .ref l2, .ref l3, .ref l4, .ref l5, .int (u.2.1 11 2), .int (msk (u.2.2.2 1)), .long (u.1 9 0)])), (p0, .inr (0, [.ref p1, .ref p2, .ref p3, .ref p4, .ref p5])), (p1, zaJ k 4 (u.1 0)), (e0, .inr (4, [.ref g0, .ref q0, .ref e1, .ref e2, .ref e3, .ref e4, .ref e5, .ref e6, .ref e7, .int (u.2.1 11 3), .int (u.2.1 11 4), .int (u.2.1 11 5)])), (g0, .inr (0, [.ref g1, .ref g2, .ref g3, .ref g4, .ref g5])), (g1, zaJ k 4 (u.1 1)), (g2, zaJ k 4 xS), (g3, zaJ k 4 fI2_1), (g4, zaJ k 4 fR2_2)]) [0, 1, 8, 2, 3, 4, 5, 6, 7] (by decide) rfl
  exact W.lret (v := qang (u.1 0) (u.1 1)) hx hb hr (fun t9 ht9 hW9 => ⟨⟨(qang (u.1 0) (u.1 1)), [(hm, .inr (7, [.ref p0, .ref c0, .ref n0, .ref b0, .ref e0, .ref f0, .ref l1, .ref l2, .ref l3, .ref l4, .ref l5, .int (u.2.1 11 2), .int (msk (u.2.2.2 1)), .long (u.1 9 0)])), (p0, .inr (0, [.ref p1, .ref p2, .ref p3, .ref p4, .ref p5])), (p1, zaJ k 4 (u.1 0)), (e0, .inr (4, [.ref g0, .ref q0, .ref e1, .ref e2, .ref e3, .ref e4, .ref e5, .ref e6, .ref e7, .int (u.2.1 11 3), .int (u.2.1 11 4), .int (u.2.1 11 5)])), (g0, .inr (0, [.ref g1, .ref g2, .ref g3, .ref g4, .ref g5])), (g1, zaJ k 4 (u.1 1)), (g2, zaJ k 4 xS), (g3, zaJ k 4 fI2_1), (g4, zaJ k 4 fR2_2)], rfl, ⟨rfl, ⟨fI2_1, fR2_2, rfl⟩⟩, by rw [ht9]; exact hP9, hD9⟩, hS.F ht9⟩) hS.2.2 dX8_errorAngle_17
set_option maxHeartbeats 4000000 in
set_option maxRecDepth 100000 in
theorem c_X8_greatestError (l : Launch) (D : va_G) (k : Nat → ClassId) (sz : Nat) (hm p0 c0 n0 b0 e0 f0 l1 l2 l3 l4 l5 : Nat) (u : zS)  : Met l yX8_greatestError wsX8_greatestError ({ frames := 0, cells := 0, slots := 0, locals := 0 } : Room) (va_Pc [.ref hm] (zPre D k [(hm, .inr (7, [.ref p0, .ref c0, .ref n0, .ref b0, .ref e0, .ref f0, .ref l1, .ref l2, .ref l3, .ref l4, .ref l5, .int (u.2.1 11 2), .int (msk (u.2.2.2 1)), .long (u.1 9 0)]))] sz zX0)) (zQl D [(hm, .inr (7, [.ref p0, .ref c0, .ref n0, .ref b0, .ref e0, .ref f0, .ref l1, .ref l2, .ref l3, .ref l4, .ref l5, .int (u.2.1 11 2), .int (msk (u.2.2.2 1)), .long (u.1 9 0)]))] sz (u.1 9 0) (fun w : va_W => w = [(hm, .inr (7, [.ref p0, .ref c0, .ref n0, .ref b0, .ref e0, .ref f0, .ref l1, .ref l2, .ref l3, .ref l4, .ref l5, .int (u.2.1 11 2), .int (msk (u.2.2.2 1)), .long (u.1 9 0)]))])) 0 0 (va_A [(hm, .inr (7, [.ref p0, .ref c0, .ref n0, .ref b0, .ref e0, .ref f0, .ref l1, .ref l2, .ref l3, .ref l4, .ref l5, .int (u.2.1 11 2), .int (msk (u.2.2.2 1)), .long (u.1 9 0)]))] sz) := by
  refine Met.ofW (cc := cX8_greatestError) (maxL := 1) (ret := (some .long)) (by decide) rfl ?_
  intro p e s m args below meth c s₁ B hml hv
  obtain ⟨rfl, hsz, hP, hK, hD0, hE⟩ := hv
  have hx := B.exec
  have hb := B.bytes
  have hr := B.returns
  have hts := atoms_spec (ws := wsX8_greatestError) B.pre
  have hown : s.vm.findClass RX8 = some m.cls := findClass_of_methodNamed B.named
  have hlocks := B.notSynchronized
  subst hsz
  have hD := hD0.self (sz := s.heap.size)
  delta zQl zB
  generalize hAe : va_A [(hm, .inr (7, [.ref p0, .ref c0, .ref n0, .ref b0, .ref e0, .ref f0, .ref l1, .ref l2, .ref l3, .ref l4, .ref l5, .int (u.2.1 11 2), .int (msk (u.2.2.2 1)), .long (u.1 9 0)]))] s.heap.size = A at hD hE ⊢
  have hA : ∀ q : Nat, s.heap.size ≤ q → A q := fun q h => by rw [← hAe]; exact Or.inr h
  have hS : va_S A s.heap s.heap [] := va_S.rf
  have hl := lv_entry [.ref hm] (n := 1) (Nat.le_of_ble_eq_true rfl)
  rw [lg_entry_eq]
  generalize (lg_sl [.ref hm] ++ List.replicate (1 - (lg_sl [.ref hm]).length) Slot.unset).toArray = ls at hl ⊢
  have hl : lv_has ls 1 [(0, .ref hm)] := hl
  have hl206 : (Cond.fieldLink RX8 206 "InertialReference" "greatest" "J").before #[Value.ref hm] s = true := zw hts 1 rfl
  have hinX8 : ∀ w ∈ u_ws RX8 TX8 14, w ∈ wsX8_greatestError := fun w h => List.mem_cons_of_mem _ (List.mem_append_right _ h)
  refine lv_aload_n hx hb dX8_greatestError_0 rfl (lv_at hl 0 rfl) ?_
  refine va_get (D := D) (ci := 7) (v := .long (u.1 9 0)) (C := RX8) (T := TX8) (N := 14) hx hb hts hinX8 hown hK hP 0 rfl rfl 13 (Nat.le_of_ble_eq_true rfl) hl206 (fun _ h9 => h9) rfl dX8_greatestError_1 ?_
  have hP9 := hP.sub (ws' := [(hm, .inr (7, [.ref p0, .ref c0, .ref n0, .ref b0, .ref e0, .ref f0, .ref l1, .ref l2, .ref l3, .ref l4, .ref l5, .int (u.2.1 11 2), .int (msk (u.2.2.2 1)), .long (u.1 9 0)]))]) [0] rfl
  have hD9 := hD.sub (ws' := [(hm, .inr (7, [.ref p0, .ref c0, .ref n0, .ref b0, .ref e0, .ref f0, .ref l1, .ref l2, .ref l3, .ref l4, .ref l5, .int (u.2.1 11 2), .int (msk (u.2.2.2 1)), .long (u.1 9 0)]))]) [0] (by decide) rfl
  exact W.lret (v := u.1 9 0) hx hb hr (fun t9 ht9 hW9 => ⟨⟨(u.1 9 0), [(hm, .inr (7, [.ref p0, .ref c0, .ref n0, .ref b0, .ref e0, .ref f0, .ref l1, .ref l2, .ref l3, .ref l4, .ref l5, .int (u.2.1 11 2), .int (msk (u.2.2.2 1)), .long (u.1 9 0)]))], rfl, ⟨rfl, rfl⟩, by rw [ht9]; exact hP9, hD9⟩, hS.F ht9⟩) hS.2.2 dX8_greatestError_4
set_option maxHeartbeats 4000000 in
set_option maxRecDepth 100000 in
theorem c_X8_tiltError (l : Launch) (D : va_G) (k : Nat → ClassId) (sz : Nat) (hm p0 p1 p2 p3 p4 p5 p6 p7 p8 c0 n0 b0 e0 e1 e2 e3 e4 e5 e6 e7 g0 g1 g2 g3 g4 g5 g6 g7 g8 q0 f0 l1 l2 l3 l4 l5 up : Nat) (u : zS) (wU wV wY : Nat → Int64)  (hq : (sq3 (sar (crs (upb (u.1 0)) (upb (u.1 1)) 0) 28) (sar (crs (upb (u.1 0)) (upb (u.1 1)) 1) 28) (sar (crs (upb (u.1 0)) (upb (u.1 1)) 2) 28)).toInt < 2 ^ 62) : Met l yX8_tiltError wsX8_tiltError ({ frames := 3, cells := 0, slots := 0, locals := 70 } : Room) (va_Pc [.ref hm] (zPre D k [(hm, .inr (7, [.ref p0, .ref c0, .ref n0, .ref b0, .ref e0, .ref f0, .ref l1, .ref l2, .ref l3, .ref l4, .ref l5, .int (u.2.1 11 2), .int (msk (u.2.2.2 1)), .long (u.1 9 0)])), (p0, .inr (0, [.ref p1, .ref p2, .ref p3, .ref p4, .ref p5])), (p5, zaG k 3 (gr3 p6 p7 p8)), (p6, zaJ k 3 (mrow0 (u.1 0))), (p7, zaJ k 3 (mrow1 (u.1 0))), (p8, zaJ k 3 (mrow2 (u.1 0))), (e0, .inr (4, [.ref g0, .ref q0, .ref e1, .ref e2, .ref e3, .ref e4, .ref e5, .ref e6, .ref e7, .int (u.2.1 11 3), .int (u.2.1 11 4), .int (u.2.1 11 5)])), (g0, .inr (0, [.ref g1, .ref g2, .ref g3, .ref g4, .ref g5])), (g5, zaG k 3 (gr3 g6 g7 g8)), (g6, zaJ k 3 (mrow0 (u.1 1))), (g7, zaJ k 3 (mrow1 (u.1 1))), (g8, zaJ k 3 (mrow2 (u.1 1))), (l3, zaJ k 3 wU), (l4, zaJ k 3 wV), (l5, zaJ k 3 wY)] sz (zE0 up (va_A [(hm, .inr (7, [.ref p0, .ref c0, .ref n0, .ref b0, .ref e0, .ref f0, .ref l1, .ref l2, .ref l3, .ref l4, .ref l5, .int (u.2.1 11 2), .int (msk (u.2.2.2 1)), .long (u.1 9 0)])), (p0, .inr (0, [.ref p1, .ref p2, .ref p3, .ref p4, .ref p5])), (p5, zaG k 3 (gr3 p6 p7 p8)), (p6, zaJ k 3 (mrow0 (u.1 0))), (p7, zaJ k 3 (mrow1 (u.1 0))), (p8, zaJ k 3 (mrow2 (u.1 0))), (e0, .inr (4, [.ref g0, .ref q0, .ref e1, .ref e2, .ref e3, .ref e4, .ref e5, .ref e6, .ref e7, .int (u.2.1 11 3), .int (u.2.1 11 4), .int (u.2.1 11 5)])), (g0, .inr (0, [.ref g1, .ref g2, .ref g3, .ref g4, .ref g5])), (g5, zaG k 3 (gr3 g6 g7 g8)), (g6, zaJ k 3 (mrow0 (u.1 1))), (g7, zaJ k 3 (mrow1 (u.1 1))), (g8, zaJ k 3 (mrow2 (u.1 1))), (l3, zaJ k 3 wU), (l4, zaJ k 3 wV), (l5, zaJ k 3 wY)] sz)))) (zQl D [(hm, .inr (7, [.ref p0, .ref c0, .ref n0, .ref b0, .ref e0, .ref f0, .ref l1, .ref l2, .ref l3, .ref l4, .ref l5, .int (u.2.1 11 2), .int (msk (u.2.2.2 1)), .long (u.1 9 0)])), (p0, .inr (0, [.ref p1, .ref p2, .ref p3, .ref p4, .ref p5])), (p5, zaG k 3 (gr3 p6 p7 p8)), (p6, zaJ k 3 (mrow0 (u.1 0))), (p7, zaJ k 3 (mrow1 (u.1 0))), (p8, zaJ k 3 (mrow2 (u.1 0))), (e0, .inr (4, [.ref g0, .ref q0, .ref e1, .ref e2, .ref e3, .ref e4, .ref e5, .ref e6, .ref e7, .int (u.2.1 11 3), .int (u.2.1 11 4), .int (u.2.1 11 5)])), (g0, .inr (0, [.ref g1, .ref g2, .ref g3, .ref g4, .ref g5])), (g5, zaG k 3 (gr3 g6 g7 g8)), (g6, zaJ k 3 (mrow0 (u.1 1))), (g7, zaJ k 3 (mrow1 (u.1 1))), (g8, zaJ k 3 (mrow2 (u.1 1))), (l3, zaJ k 3 wU), (l4, zaJ k 3 wV), (l5, zaJ k 3 wY)] sz (isq (sq3 (sar (crs (upb (u.1 0)) (upb (u.1 1)) 0) 28) (sar (crs (upb (u.1 0)) (upb (u.1 1)) 1) 28) (sar (crs (upb (u.1 0)) (upb (u.1 1)) 2) 28))) (fun w : va_W => ∃ (wU2 wV2 wY2 : Nat → Int64), w = [(hm, .inr (7, [.ref p0, .ref c0, .ref n0, .ref b0, .ref e0, .ref f0, .ref l1, .ref l2, .ref l3, .ref l4, .ref l5, .int (u.2.1 11 2), .int (msk (u.2.2.2 1)), .long (u.1 9 0)])), (p0, .inr (0, [.ref p1, .ref p2, .ref p3, .ref p4, .ref p5])), (p5, zaG k 3 (gr3 p6 p7 p8)), (p6, zaJ k 3 (mrow0 (u.1 0))), (p7, zaJ k 3 (mrow1 (u.1 0))), (p8, zaJ k 3 (mrow2 (u.1 0))), (e0, .inr (4, [.ref g0, .ref q0, .ref e1, .ref e2, .ref e3, .ref e4, .ref e5, .ref e6, .ref e7, .int (u.2.1 11 3), .int (u.2.1 11 4), .int (u.2.1 11 5)])), (g0, .inr (0, [.ref g1, .ref g2, .ref g3, .ref g4, .ref g5])), (g5, zaG k 3 (gr3 g6 g7 g8)), (g6, zaJ k 3 (mrow0 (u.1 1))), (g7, zaJ k 3 (mrow1 (u.1 1))), (g8, zaJ k 3 (mrow2 (u.1 1))), (l3, zaJ k 3 wU2), (l4, zaJ k 3 wV2), (l5, zaJ k 3 wY2)])) 0 0 (va_A [(hm, .inr (7, [.ref p0, .ref c0, .ref n0, .ref b0, .ref e0, .ref f0, .ref l1, .ref l2, .ref l3, .ref l4, .ref l5, .int (u.2.1 11 2), .int (msk (u.2.2.2 1)), .long (u.1 9 0)])), (p0, .inr (0, [.ref p1, .ref p2, .ref p3, .ref p4, .ref p5])), (p5, zaG k 3 (gr3 p6 p7 p8)), (p6, zaJ k 3 (mrow0 (u.1 0))), (p7, zaJ k 3 (mrow1 (u.1 0))), (p8, zaJ k 3 (mrow2 (u.1 0))), (e0, .inr (4, [.ref g0, .ref q0, .ref e1, .ref e2, .ref e3, .ref e4, .ref e5, .ref e6, .ref e7, .int (u.2.1 11 3), .int (u.2.1 11 4), .int (u.2.1 11 5)])), (g0, .inr (0, [.ref g1, .ref g2, .ref g3, .ref g4, .ref g5])), (g5, zaG k 3 (gr3 g6 g7 g8)), (g6, zaJ k 3 (mrow0 (u.1 1))), (g7, zaJ k 3 (mrow1 (u.1 1))), (g8, zaJ k 3 (mrow2 (u.1 1))), (l3, zaJ k 3 wU), (l4, zaJ k 3 wV), (l5, zaJ k 3 wY)] sz) := by
  refine Met.ofW (cc := cX8_tiltError) (maxL := 1) (ret := (some .long)) (by decide) rfl ?_
  intro p e s m args below meth c s₁ B hml hv
  obtain ⟨rfl, hsz, hP, hK, hD0, hE⟩ := hv
  have hx := B.exec
  have hb := B.bytes
  have hr := B.returns
  have hts := atoms_spec (ws := wsX8_tiltError) B.pre
  have hown : s.vm.findClass RX8 = some m.cls := findClass_of_methodNamed B.named
  have hlocks := B.notSynchronized
  subst hsz
  have hD := hD0.self (sz := s.heap.size)
  delta zQl zB
  generalize hAe : va_A [(hm, .inr (7, [.ref p0, .ref c0, .ref n0, .ref b0, .ref e0, .ref f0, .ref l1, .ref l2, .ref l3, .ref l4, .ref l5, .int (u.2.1 11 2), .int (msk (u.2.2.2 1)), .long (u.1 9 0)])), (p0, .inr (0, [.ref p1, .ref p2, .ref p3, .ref p4, .ref p5])), (p5, zaG k 3 (gr3 p6 p7 p8)), (p6, zaJ k 3 (mrow0 (u.1 0))), (p7, zaJ k 3 (mrow1 (u.1 0))), (p8, zaJ k 3 (mrow2 (u.1 0))), (e0, .inr (4, [.ref g0, .ref q0, .ref e1, .ref e2, .ref e3, .ref e4, .ref e5, .ref e6, .ref e7, .int (u.2.1 11 3), .int (u.2.1 11 4), .int (u.2.1 11 5)])), (g0, .inr (0, [.ref g1, .ref g2, .ref g3, .ref g4, .ref g5])), (g5, zaG k 3 (gr3 g6 g7 g8)), (g6, zaJ k 3 (mrow0 (u.1 1))), (g7, zaJ k 3 (mrow1 (u.1 1))), (g8, zaJ k 3 (mrow2 (u.1 1))), (l3, zaJ k 3 wU), (l4, zaJ k 3 wV), (l5, zaJ k 3 wY)] s.heap.size = A at hD hE ⊢
  have hA : ∀ q : Nat, s.heap.size ≤ q → A q := fun q h => by rw [← hAe]; exact Or.inr h
  have hS : va_S A s.heap s.heap [] := va_S.rf
  have hl := lv_entry [.ref hm] (n := 1) (Nat.le_of_ble_eq_true rfl)
  rw [lg_entry_eq]
  generalize (lg_sl [.ref hm] ++ List.replicate (1 - (lg_sl [.ref hm]).length) Slot.unset).toArray = ls at hl ⊢
  have hl : lv_has ls 1 [(0, .ref hm)] := hl
  have hl10 : (Cond.fieldLink RX8 10 "InertialReference" "trueAttitude" "LInertialReference$Attitude;").before #[Value.ref hm] s = true := zw hts 1 rfl
  have hinX8 : ∀ w ∈ u_ws RX8 TX8 14, w ∈ wsX8_tiltError := fun w h => List.mem_cons_of_mem _ (List.mem_append_left _ (List.mem_append_left _ (List.mem_append_right _ h)))
  have hl210 : (Cond.fieldLink RX8 210 "InertialReference" "UPWARD" "[J").before #[Value.ref hm] s = true := zw hts 2 rfl
  have hl58 : (Cond.fieldLink RX8 58 "InertialReference" "trueUp" "[J").before #[Value.ref hm] s = true := zw hts 3 rfl
  have hl40 : (Cond.fieldLink RX8 40 "InertialReference" "estimator" "LInertialReference$Estimator;").before #[Value.ref hm] s = true := zw hts 4 rfl
  have hl196 : (Cond.fieldLinkNest RX8 196 "InertialReference$Estimator" "attitude" "LInertialReference$Attitude;" "InertialReference").before #[Value.ref hm] s = true := va_Nw.use rfl (zn_RX8_196 hE.1)
  have hinX4 : ∀ w ∈ u_ws RX4 TX4 12, w ∈ wsX8_tiltError := fun w h => List.mem_cons_of_mem _ (List.mem_append_left _ (List.mem_append_right _ h))
  have hl61 : (Cond.fieldLink RX8 61 "InertialReference" "estimatedUp" "[J").before #[Value.ref hm] s = true := zw hts 5 rfl
  have hl64 : (Cond.fieldLink RX8 64 "InertialReference" "between" "[J").before #[Value.ref hm] s = true := zw hts 6 rfl
  refine lv_aload_n hx hb dX8_tiltError_0 rfl (lv_at hl 0 rfl) ?_
  refine va_get (D := D) (ci := 7) (v := .ref p0) (C := RX8) (T := TX8) (N := 14) hx hb hts hinX8 hown hK hP 0 rfl rfl 0 (Nat.le_of_ble_eq_true rfl) hl10 (fun _ h9 => h9) rfl dX8_tiltError_1 ?_
  refine va_gets hx hb hE.2.1 hS hown hl210 (fun _ h9 => h9) dX8_tiltError_4 ?_
  refine lv_aload_n hx hb dX8_tiltError_7 rfl (lv_at hl 0 rfl) ?_
  refine va_get (D := D) (ci := 7) (v := .ref l3) (C := RX8) (T := TX8) (N := 14) hx hb hts hinX8 hown hK hP 0 rfl rfl 8 (Nat.le_of_ble_eq_true rfl) hl58 (fun _ h9 => h9) rfl dX8_tiltError_8 ?_
  refine z_callv0 (wc := [(p0, .inr (0, [.ref p1, .ref p2, .ref p3, .ref p4, .ref p5])), (p5, zaG k 3 (gr3 p6 p7 p8)), (p6, zaJ k 3 (mrow0 (u.1 0))), (p7, zaJ k 3 (mrow1 (u.1 0))), (p8, zaJ k 3 (mrow2 (u.1 0))), (l3, zaJ k 3 wU)]) (wr := [(hm, .inr (7, [.ref p0, .ref c0, .ref n0, .ref b0, .ref e0, .ref f0, .ref l1, .ref l2, .ref l3, .ref l4, .ref l5, .int (u.2.1 11 2), .int (msk (u.2.2.2 1)), .long (u.1 9 0)])), (e0, .inr (4, [.ref g0, .ref q0, .ref e1, .ref e2, .ref e3, .ref e4, .ref e5, .ref e6, .ref e7, .int (u.2.1 11 3), .int (u.2.1 11 4), .int (u.2.1 11 5)])), (g0, .inr (0, [.ref g1, .ref g2, .ref g3, .ref g4, .ref g5])), (g5, zaG k 3 (gr3 g6 g7 g8)), (g6, zaJ k 3 (mrow0 (u.1 1))), (g7, zaJ k 3 (mrow1 (u.1 1))), (g8, zaJ k 3 (mrow2 (u.1 1))), (l4, zaJ k 3 wV), (l5, zaJ k 3 wY)]) (va_runV (As := [.ref up, .ref l3]) (rest := []) ⟨hx, hb, hml, hown, hts⟩ (c_X0_turnIntoBody l D k s.heap.size p0 p1 p2 p3 p4 p5 p6 p7 p8 up l3 (mrow0 (u.1 0)) (mrow1 (u.1 0)) (mrow2 (u.1 0)) zUp wU) (cwV 2 hts gX8_tiltError_X0_turnIntoBody rfl rfl rfl (by decide +kernel) ⟨Nat.le_of_ble_eq_true rfl, Nat.le_of_ble_eq_true rfl⟩) (z_preV (wc := [(p0, .inr (0, [.ref p1, .ref p2, .ref p3, .ref p4, .ref p5])), (p5, zaG k 3 (gr3 p6 p7 p8)), (p6, zaJ k 3 (mrow0 (u.1 0))), (p7, zaJ k 3 (mrow1 (u.1 0))), (p8, zaJ k 3 (mrow2 (u.1 0))), (l3, zaJ k 3 wU)]) 1 0 hP hD hK [1, 2, 3, 4, 5, 12] rfl rfl rfl rfl zTbb (zTp (hE).2.2 hS (va_free hD hS hA [1, 2, 3, 4, 5, 12] (wc := [(p0, .inr (0, [.ref p1, .ref p2, .ref p3, .ref p4, .ref p5])), (p5, zaG k 3 (gr3 p6 p7 p8)), (p6, zaJ k 3 (mrow0 (u.1 0))), (p7, zaJ k 3 (mrow1 (u.1 0))), (p8, zaJ k 3 (mrow2 (u.1 0))), (l3, zaJ k 3 wU)]) rfl))) rfl rfl hl.1 rfl (lv_room (Nat.le_of_ble_eq_true rfl)) dX8_tiltError_11 ⟨Nat.zero_le _, Nat.zero_le _⟩) hP hD hS hA [1, 2, 3, 4, 5, 12] [0, 6, 7, 8, 9, 10, 11, 13, 14] rfl rfl rfl (by decide) (fun w H locs hF hP hD hS => ?_)
  subst hF
  have hP : va_P D vwCl [(hm, .inr (7, [.ref p0, .ref c0, .ref n0, .ref b0, .ref e0, .ref f0, .ref l1, .ref l2, .ref l3, .ref l4, .ref l5, .int (u.2.1 11 2), .int (msk (u.2.2.2 1)), .long (u.1 9 0)])), (e0, .inr (4, [.ref g0, .ref q0, .ref e1, .ref e2, .ref e3, .ref e4, .ref e5, .ref e6, .ref e7, .int (u.2.1 11 3), .int (u.2.1 11 4), .int (u.2.1 11 5)])), (g0, .inr (0, [.ref g1, .ref g2, .ref g3, .ref g4, .ref g5])), (g5, zaG k 3 (gr3 g6 g7 g8)), (g6, zaJ k 3 (mrow0 (u.1 1))), (g7, zaJ k 3 (mrow1 (u.1 1))), (g8, zaJ k 3 (mrow2 (u.1 1))), (l4, zaJ k 3 wV), (l5, zaJ k 3 wY), (p0, .inr (0, [.ref p1, .ref p2, .ref p3, .ref p4, .ref p5])), (p5, zaG k 3 (gr3 p6 p7 p8)), (p6, zaJ k 3 (mrow0 (u.1 0))), (p7, zaJ k 3 (mrow1 (u.1 0))), (p8, zaJ k 3 (mrow2 (u.1 0))), (l3, zaJ k 3 (bodyr (mrow0 (u.1 0)) (mrow1 (u.1 0)) (mrow2 (u.1 0)) (zUp 0) (zUp 1) (zUp 2)))] H := hP
  have hD : va_D A [(hm, .inr (7, [.ref p0, .ref c0, .ref n0, .ref b0, .ref e0, .ref f0, .ref l1, .ref l2, .ref l3, .ref l4, .ref l5, .int (u.2.1 11 2), .int (msk (u.2.2.2 1)), .long (u.1 9 0)])), (e0, .inr (4, [.ref g0, .ref q0, .ref e1, .ref e2, .ref e3, .ref e4, .ref e5, .ref e6, .ref e7, .int (u.2.1 11 3), .int (u.2.1 11 4), .int (u.2.1 11 5)])), (g0, .inr (0, [.ref g1, .ref g2, .ref g3, .ref g4, .ref g5])), (g5, zaG k 3 (gr3 g6 g7 g8)), (g6, zaJ k 3 (mrow0 (u.1 1))), (g7, zaJ k 3 (mrow1 (u.1 1))), (g8, zaJ k 3 (mrow2 (u.1 1))), (l4, zaJ k 3 wV), (l5, zaJ k 3 wY), (p0, .inr (0, [.ref p1, .ref p2, .ref p3, .ref p4, .ref p5])), (p5, zaG k 3 (gr3 p6 p7 p8)), (p6, zaJ k 3 (mrow0 (u.1 0))), (p7, zaJ k 3 (mrow1 (u.1 0))), (p8, zaJ k 3 (mrow2 (u.1 0))), (l3, zaJ k 3 (bodyr (mrow0 (u.1 0)) (mrow1 (u.1 0)) (mrow2 (u.1 0)) (zUp 0) (zUp 1) (zUp 2)))] := hD
  have hP := z_congJ hP 14 rfl (g := upb (u.1 0)) (zall3 rfl rfl rfl) (ws' := [(hm, .inr (7, [.ref p0, .ref c0, .ref n0, .ref b0, .ref e0, .ref f0, .ref l1, .ref l2, .ref l3, .ref l4, .ref l5, .int (u.2.1 11 2), .int (msk (u.2.2.2 1)), .long (u.1 9 0)])), (e0, .inr (4, [.ref g0, .ref q0, .ref e1, .ref e2, .ref e3, .ref e4, .ref e5, .ref e6, .ref e7, .int (u.2.1 11 3), .int (u.2.1 11 4), .int (u.2.1 11 5)])), (g0, .inr (0, [.ref g1, .ref g2, .ref g3, .ref g4, .ref g5])), (g5, zaG k 3 (gr3 g6 g7 g8)), (g6, zaJ k 3 (mrow0 (u.1 1))), (g7, zaJ k 3 (mrow1 (u.1 1))), (g8, zaJ k 3 (mrow2 (u.1 1))), (l4, zaJ k 3 wV), (l5, zaJ k 3 wY), (p0, .inr (0, [.ref p1, .ref p2, .ref p3, .ref p4, .ref p5])), (p5, zaG k 3 (gr3 p6 p7 p8)), (p6, zaJ k 3 (mrow0 (u.1 0))), (p7, zaJ k 3 (mrow1 (u.1 0))), (p8, zaJ k 3 (mrow2 (u.1 0))), (l3, zaJ k 3 (upb (u.1 0)))]) rfl
  have hD := z_congDJ hD 14 rfl (g := upb (u.1 0)) (ws' := [(hm, .inr (7, [.ref p0, .ref c0, .ref n0, .ref b0, .ref e0, .ref f0, .ref l1, .ref l2, .ref l3, .ref l4, .ref l5, .int (u.2.1 11 2), .int (msk (u.2.2.2 1)), .long (u.1 9 0)])), (e0, .inr (4, [.ref g0, .ref q0, .ref e1, .ref e2, .ref e3, .ref e4, .ref e5, .ref e6, .ref e7, .int (u.2.1 11 3), .int (u.2.1 11 4), .int (u.2.1 11 5)])), (g0, .inr (0, [.ref g1, .ref g2, .ref g3, .ref g4, .ref g5])), (g5, zaG k 3 (gr3 g6 g7 g8)), (g6, zaJ k 3 (mrow0 (u.1 1))), (g7, zaJ k 3 (mrow1 (u.1 1))), (g8, zaJ k 3 (mrow2 (u.1 1))), (l4, zaJ k 3 wV), (l5, zaJ k 3 wY), (p0, .inr (0, [.ref p1, .ref p2, .ref p3, .ref p4, .ref p5])), (p5, zaG k 3 (gr3 p6 p7 p8)), (p6, zaJ k 3 (mrow0 (u.1 0))), (p7, zaJ k 3 (mrow1 (u.1 0))), (p8, zaJ k 3 (mrow2 (u.1 0))), (l3, zaJ k 3 (upb (u.1 0)))]) rfl
  refine lv_aload_n hx hb dX8_tiltError_14 rfl (lv_at hl 0 rfl) ?_
  refine va_get (D := D) (ci := 7) (v := .ref e0) (C := RX8) (T := TX8) (N := 14) hx hb hts hinX8 hown hK hP 0 rfl rfl 4 (Nat.le_of_ble_eq_true rfl) hl40 (fun _ h9 => h9) rfl dX8_tiltError_15 ?_
  refine va_getN (D := D) (ci := 4) (v := .ref g0) (C := RX4) (T := TX4) (N := 12) hx hb hts hinX4 hown hK hP 1 rfl rfl 0 (Nat.le_of_ble_eq_true rfl) hl196 (fun _ h9 => h9) rfl dX8_tiltError_18 ?_
  refine va_gets hx hb hE.2.1 hS hown hl210 (fun _ h9 => h9) dX8_tiltError_21 ?_
  refine lv_aload_n hx hb dX8_tiltError_24 rfl (lv_at hl 0 rfl) ?_
  refine va_get (D := D) (ci := 7) (v := .ref l4) (C := RX8) (T := TX8) (N := 14) hx hb hts hinX8 hown hK hP 0 rfl rfl 9 (Nat.le_of_ble_eq_true rfl) hl61 (fun _ h9 => h9) rfl dX8_tiltError_25 ?_
  refine z_callv0 (wc := [(g0, .inr (0, [.ref g1, .ref g2, .ref g3, .ref g4, .ref g5])), (g5, zaG k 3 (gr3 g6 g7 g8)), (g6, zaJ k 3 (mrow0 (u.1 1))), (g7, zaJ k 3 (mrow1 (u.1 1))), (g8, zaJ k 3 (mrow2 (u.1 1))), (l4, zaJ k 3 wV)]) (wr := [(hm, .inr (7, [.ref p0, .ref c0, .ref n0, .ref b0, .ref e0, .ref f0, .ref l1, .ref l2, .ref l3, .ref l4, .ref l5, .int (u.2.1 11 2), .int (msk (u.2.2.2 1)), .long (u.1 9 0)])), (e0, .inr (4, [.ref g0, .ref q0, .ref e1, .ref e2, .ref e3, .ref e4, .ref e5, .ref e6, .ref e7, .int (u.2.1 11 3), .int (u.2.1 11 4), .int (u.2.1 11 5)])), (l5, zaJ k 3 wY), (p0, .inr (0, [.ref p1, .ref p2, .ref p3, .ref p4, .ref p5])), (p5, zaG k 3 (gr3 p6 p7 p8)), (p6, zaJ k 3 (mrow0 (u.1 0))), (p7, zaJ k 3 (mrow1 (u.1 0))), (p8, zaJ k 3 (mrow2 (u.1 0))), (l3, zaJ k 3 (upb (u.1 0)))]) (va_runV (As := [.ref up, .ref l4]) (rest := []) ⟨hx, hb, hml, hown, hts⟩ (c_X0_turnIntoBody l D k H.size g0 g1 g2 g3 g4 g5 g6 g7 g8 up l4 (mrow0 (u.1 1)) (mrow1 (u.1 1)) (mrow2 (u.1 1)) zUp wV) (cwV 2 hts gX8_tiltError_X0_turnIntoBody rfl rfl rfl (by decide +kernel) ⟨Nat.le_of_ble_eq_true rfl, Nat.le_of_ble_eq_true rfl⟩) (z_preV (wc := [(g0, .inr (0, [.ref g1, .ref g2, .ref g3, .ref g4, .ref g5])), (g5, zaG k 3 (gr3 g6 g7 g8)), (g6, zaJ k 3 (mrow0 (u.1 1))), (g7, zaJ k 3 (mrow1 (u.1 1))), (g8, zaJ k 3 (mrow2 (u.1 1))), (l4, zaJ k 3 wV)]) 2 0 hP hD hK [2, 3, 4, 5, 6, 7] rfl rfl rfl rfl zTbb (zTp (hE).2.2 hS (va_free hD hS hA [2, 3, 4, 5, 6, 7] (wc := [(g0, .inr (0, [.ref g1, .ref g2, .ref g3, .ref g4, .ref g5])), (g5, zaG k 3 (gr3 g6 g7 g8)), (g6, zaJ k 3 (mrow0 (u.1 1))), (g7, zaJ k 3 (mrow1 (u.1 1))), (g8, zaJ k 3 (mrow2 (u.1 1))), (l4, zaJ k 3 wV)]) rfl))) rfl rfl hl.1 rfl (lv_room (Nat.le_of_ble_eq_true rfl)) dX8_tiltError_28 ⟨Nat.zero_le _, Nat.zero_le _⟩) hP hD hS hA [2, 3, 4, 5, 6, 7] [0, 1, 8, 9, 10, 11, 12, 13, 14] rfl rfl rfl (by decide) (fun w H locs hF hP hD hS => ?_)
  subst hF
  have hP : va_P D vwCl [(hm, .inr (7, [.ref p0, .ref c0, .ref n0, .ref b0, .ref e0, .ref f0, .ref l1, .ref l2, .ref l3, .ref l4, .ref l5, .int (u.2.1 11 2), .int (msk (u.2.2.2 1)), .long (u.1 9 0)])), (e0, .inr (4, [.ref g0, .ref q0, .ref e1, .ref e2, .ref e3, .ref e4, .ref e5, .ref e6, .ref e7, .int (u.2.1 11 3), .int (u.2.1 11 4), .int (u.2.1 11 5)])), (l5, zaJ k 3 wY), (p0, .inr (0, [.ref p1, .ref p2, .ref p3, .ref p4, .ref p5])), (p5, zaG k 3 (gr3 p6 p7 p8)), (p6, zaJ k 3 (mrow0 (u.1 0))), (p7, zaJ k 3 (mrow1 (u.1 0))), (p8, zaJ k 3 (mrow2 (u.1 0))), (l3, zaJ k 3 (upb (u.1 0))), (g0, .inr (0, [.ref g1, .ref g2, .ref g3, .ref g4, .ref g5])), (g5, zaG k 3 (gr3 g6 g7 g8)), (g6, zaJ k 3 (mrow0 (u.1 1))), (g7, zaJ k 3 (mrow1 (u.1 1))), (g8, zaJ k 3 (mrow2 (u.1 1))), (l4, zaJ k 3 (bodyr (mrow0 (u.1 1)) (mrow1 (u.1 1)) (mrow2 (u.1 1)) (zUp 0) (zUp 1) (zUp 2)))] H := hP
  have hD : va_D A [(hm, .inr (7, [.ref p0, .ref c0, .ref n0, .ref b0, .ref e0, .ref f0, .ref l1, .ref l2, .ref l3, .ref l4, .ref l5, .int (u.2.1 11 2), .int (msk (u.2.2.2 1)), .long (u.1 9 0)])), (e0, .inr (4, [.ref g0, .ref q0, .ref e1, .ref e2, .ref e3, .ref e4, .ref e5, .ref e6, .ref e7, .int (u.2.1 11 3), .int (u.2.1 11 4), .int (u.2.1 11 5)])), (l5, zaJ k 3 wY), (p0, .inr (0, [.ref p1, .ref p2, .ref p3, .ref p4, .ref p5])), (p5, zaG k 3 (gr3 p6 p7 p8)), (p6, zaJ k 3 (mrow0 (u.1 0))), (p7, zaJ k 3 (mrow1 (u.1 0))), (p8, zaJ k 3 (mrow2 (u.1 0))), (l3, zaJ k 3 (upb (u.1 0))), (g0, .inr (0, [.ref g1, .ref g2, .ref g3, .ref g4, .ref g5])), (g5, zaG k 3 (gr3 g6 g7 g8)), (g6, zaJ k 3 (mrow0 (u.1 1))), (g7, zaJ k 3 (mrow1 (u.1 1))), (g8, zaJ k 3 (mrow2 (u.1 1))), (l4, zaJ k 3 (bodyr (mrow0 (u.1 1)) (mrow1 (u.1 1)) (mrow2 (u.1 1)) (zUp 0) (zUp 1) (zUp 2)))] := hD
  have hP := z_congJ hP 14 rfl (g := upb (u.1 1)) (zall3 rfl rfl rfl) (ws' := [(hm, .inr (7, [.ref p0, .ref c0, .ref n0, .ref b0, .ref e0, .ref f0, .ref l1, .ref l2, .ref l3, .ref l4, .ref l5, .int (u.2.1 11 2), .int (msk (u.2.2.2 1)), .long (u.1 9 0)])), (e0, .inr (4, [.ref g0, .ref q0, .ref e1, .ref e2, .ref e3, .ref e4, .ref e5, .ref e6, .ref e7, .int (u.2.1 11 3), .int (u.2.1 11 4), .int (u.2.1 11 5)])), (l5, zaJ k 3 wY), (p0, .inr (0, [.ref p1, .ref p2, .ref p3, .ref p4, .ref p5])), (p5, zaG k 3 (gr3 p6 p7 p8)), (p6, zaJ k 3 (mrow0 (u.1 0))), (p7, zaJ k 3 (mrow1 (u.1 0))), (p8, zaJ k 3 (mrow2 (u.1 0))), (l3, zaJ k 3 (upb (u.1 0))), (g0, .inr (0, [.ref g1, .ref g2, .ref g3, .ref g4, .ref g5])), (g5, zaG k 3 (gr3 g6 g7 g8)), (g6, zaJ k 3 (mrow0 (u.1 1))), (g7, zaJ k 3 (mrow1 (u.1 1))), (g8, zaJ k 3 (mrow2 (u.1 1))), (l4, zaJ k 3 (upb (u.1 1)))]) rfl
  have hD := z_congDJ hD 14 rfl (g := upb (u.1 1)) (ws' := [(hm, .inr (7, [.ref p0, .ref c0, .ref n0, .ref b0, .ref e0, .ref f0, .ref l1, .ref l2, .ref l3, .ref l4, .ref l5, .int (u.2.1 11 2), .int (msk (u.2.2.2 1)), .long (u.1 9 0)])), (e0, .inr (4, [.ref g0, .ref q0, .ref e1, .ref e2, .ref e3, .ref e4, .ref e5, .ref e6, .ref e7, .int (u.2.1 11 3), .int (u.2.1 11 4), .int (u.2.1 11 5)])), (l5, zaJ k 3 wY), (p0, .inr (0, [.ref p1, .ref p2, .ref p3, .ref p4, .ref p5])), (p5, zaG k 3 (gr3 p6 p7 p8)), (p6, zaJ k 3 (mrow0 (u.1 0))), (p7, zaJ k 3 (mrow1 (u.1 0))), (p8, zaJ k 3 (mrow2 (u.1 0))), (l3, zaJ k 3 (upb (u.1 0))), (g0, .inr (0, [.ref g1, .ref g2, .ref g3, .ref g4, .ref g5])), (g5, zaG k 3 (gr3 g6 g7 g8)), (g6, zaJ k 3 (mrow0 (u.1 1))), (g7, zaJ k 3 (mrow1 (u.1 1))), (g8, zaJ k 3 (mrow2 (u.1 1))), (l4, zaJ k 3 (upb (u.1 1)))]) rfl
  refine lv_aload_n hx hb dX8_tiltError_31 rfl (lv_at hl 0 rfl) ?_
  refine va_get (D := D) (ci := 7) (v := .ref l3) (C := RX8) (T := TX8) (N := 14) hx hb hts hinX8 hown hK hP 0 rfl rfl 8 (Nat.le_of_ble_eq_true rfl) hl58 (fun _ h9 => h9) rfl dX8_tiltError_32 ?_
  refine lv_aload_n hx hb dX8_tiltError_35 rfl (lv_at hl 0 rfl) ?_
  refine va_get (D := D) (ci := 7) (v := .ref l4) (C := RX8) (T := TX8) (N := 14) hx hb hts hinX8 hown hK hP 0 rfl rfl 9 (Nat.le_of_ble_eq_true rfl) hl61 (fun _ h9 => h9) rfl dX8_tiltError_36 ?_
  refine lv_aload_n hx hb dX8_tiltError_39 rfl (lv_at hl 0 rfl) ?_
  refine va_get (D := D) (ci := 7) (v := .ref l5) (C := RX8) (T := TX8) (N := 14) hx hb hts hinX8 hown hK hP 0 rfl rfl 10 (Nat.le_of_ble_eq_true rfl) hl64 (fun _ h9 => h9) rfl dX8_tiltError_40 ?_
  refine z_callv0 (wc := [(l3, zaJ k 3 (upb (u.1 0))), (l4, zaJ k 3 (upb (u.1 1))), (l5, zaJ k 3 wY)]) (wr := [(hm, .inr (7, [.ref p0, .ref c0, .ref n0, .ref b0, .ref e0, .ref f0, .ref l1, .ref l2, .ref l3, .ref l4, .ref l5, .int (u.2.1 11 2), .int (msk (u.2.2.2 1)), .long (u.1 9 0)])), (e0, .inr (4, [.ref g0, .ref q0, .ref e1, .ref e2, .ref e3, .ref e4, .ref e5, .ref e6, .ref e7, .int (u.2.1 11 3), .int (u.2.1 11 4), .int (u.2.1 11 5)])), (p0, .inr (0, [.ref p1, .ref p2, .ref p3, .ref p4, .ref p5])), (p5, zaG k 3 (gr3 p6 p7 p8)), (p6, zaJ k 3 (mrow0 (u.1 0))), (p7, zaJ k 3 (mrow1 (u.1 0))), (p8, zaJ k 3 (mrow2 (u.1 0))), (g0, .inr (0, [.ref g1, .ref g2, .ref g3, .ref g4, .ref g5])), (g5, zaG k 3 (gr3 g6 g7 g8)), (g6, zaJ k 3 (mrow0 (u.1 1))), (g7, zaJ k 3 (mrow1 (u.1 1))), (g8, zaJ k 3 (mrow2 (u.1 1)))]) (va_runS (As := [.ref l3, .ref l4, .ref l5]) (rest := []) ⟨hx, hb, hml, hown, hts⟩ (c_X5_cross l D k H.size l3 l4 l5 (upb (u.1 0)) (upb (u.1 1)) wY) (va_cwS 3 hts gX8_tiltError_X5_cross rfl rfl rfl (by decide +kernel) ⟨Nat.le_of_ble_eq_true rfl, Nat.le_of_ble_eq_true rfl⟩) (z_preS (wc := [(l3, zaJ k 3 (upb (u.1 0))), (l4, zaJ k 3 (upb (u.1 1))), (l5, zaJ k 3 wY)]) hP hD hK [8, 14, 2] rfl rfl zb0 zp0) rfl rfl hl.1 rfl (lv_room (Nat.le_of_ble_eq_true rfl)) dX8_tiltError_43 ⟨Nat.zero_le _, Nat.zero_le _⟩) hP hD hS hA [8, 14, 2] [0, 1, 3, 4, 5, 6, 7, 9, 10, 11, 12, 13] rfl rfl rfl (by decide) (fun w H locs hF hP hD hS => ?_)
  subst hF
  have hP : va_P D vwCl [(hm, .inr (7, [.ref p0, .ref c0, .ref n0, .ref b0, .ref e0, .ref f0, .ref l1, .ref l2, .ref l3, .ref l4, .ref l5, .int (u.2.1 11 2), .int (msk (u.2.2.2 1)), .long (u.1 9 0)])), (e0, .inr (4, [.ref g0, .ref q0, .ref e1, .ref e2, .ref e3, .ref e4, .ref e5, .ref e6, .ref e7, .int (u.2.1 11 3), .int (u.2.1 11 4), .int (u.2.1 11 5)])), (p0, .inr (0, [.ref p1, .ref p2, .ref p3, .ref p4, .ref p5])), (p5, zaG k 3 (gr3 p6 p7 p8)), (p6, zaJ k 3 (mrow0 (u.1 0))), (p7, zaJ k 3 (mrow1 (u.1 0))), (p8, zaJ k 3 (mrow2 (u.1 0))), (g0, .inr (0, [.ref g1, .ref g2, .ref g3, .ref g4, .ref g5])), (g5, zaG k 3 (gr3 g6 g7 g8)), (g6, zaJ k 3 (mrow0 (u.1 1))), (g7, zaJ k 3 (mrow1 (u.1 1))), (g8, zaJ k 3 (mrow2 (u.1 1))), (l3, zaJ k 3 (upb (u.1 0))), (l4, zaJ k 3 (upb (u.1 1))), (l5, zaJ k 3 (crs (upb (u.1 0)) (upb (u.1 1))))] H := hP
  have hD : va_D A [(hm, .inr (7, [.ref p0, .ref c0, .ref n0, .ref b0, .ref e0, .ref f0, .ref l1, .ref l2, .ref l3, .ref l4, .ref l5, .int (u.2.1 11 2), .int (msk (u.2.2.2 1)), .long (u.1 9 0)])), (e0, .inr (4, [.ref g0, .ref q0, .ref e1, .ref e2, .ref e3, .ref e4, .ref e5, .ref e6, .ref e7, .int (u.2.1 11 3), .int (u.2.1 11 4), .int (u.2.1 11 5)])), (p0, .inr (0, [.ref p1, .ref p2, .ref p3, .ref p4, .ref p5])), (p5, zaG k 3 (gr3 p6 p7 p8)), (p6, zaJ k 3 (mrow0 (u.1 0))), (p7, zaJ k 3 (mrow1 (u.1 0))), (p8, zaJ k 3 (mrow2 (u.1 0))), (g0, .inr (0, [.ref g1, .ref g2, .ref g3, .ref g4, .ref g5])), (g5, zaG k 3 (gr3 g6 g7 g8)), (g6, zaJ k 3 (mrow0 (u.1 1))), (g7, zaJ k 3 (mrow1 (u.1 1))), (g8, zaJ k 3 (mrow2 (u.1 1))), (l3, zaJ k 3 (upb (u.1 0))), (l4, zaJ k 3 (upb (u.1 1))), (l5, zaJ k 3 (crs (upb (u.1 0)) (upb (u.1 1))))] := hD
  refine lv_aload_n hx hb dX8_tiltError_46 rfl (lv_at hl 0 rfl) ?_
  refine va_get (D := D) (ci := 7) (v := .ref l5) (C := RX8) (T := TX8) (N := 14) hx hb hts hinX8 hown hK hP 0 rfl rfl 10 (Nat.le_of_ble_eq_true rfl) hl64 (fun _ h9 => h9) rfl dX8_tiltError_47 ?_
  refine lv_iconst (v := 0) hx hb dX8_tiltError_50 (by decide) ?_
  refine z_lald hx hb hK hP 14 rfl 0 zx0 (by decide) (v := (crs (upb (u.1 0)) (upb (u.1 1))) 0) rfl dX8_tiltError_51 ?_
  refine lv_bipush (v := 28) hx hb dX8_tiltError_52 (by decide) ?_
  refine lv_lshr (v := sar ((crs (upb (u.1 0)) (upb (u.1 1))) 0) 28) hx hb dX8_tiltError_54 rfl ?_
  refine lv_aload_n hx hb dX8_tiltError_55 rfl (lv_at hl 0 rfl) ?_
  refine va_get (D := D) (ci := 7) (v := .ref l5) (C := RX8) (T := TX8) (N := 14) hx hb hts hinX8 hown hK hP 0 rfl rfl 10 (Nat.le_of_ble_eq_true rfl) hl64 (fun _ h9 => h9) rfl dX8_tiltError_56 ?_
  refine lv_iconst (v := 1) hx hb dX8_tiltError_59 (by decide) ?_
  refine z_lald hx hb hK hP 14 rfl 1 zx1 (by decide) (v := (crs (upb (u.1 0)) (upb (u.1 1))) 1) rfl dX8_tiltError_60 ?_
  refine lv_bipush (v := 28) hx hb dX8_tiltError_61 (by decide) ?_
  refine lv_lshr (v := sar ((crs (upb (u.1 0)) (upb (u.1 1))) 1) 28) hx hb dX8_tiltError_63 rfl ?_
  refine lv_aload_n hx hb dX8_tiltError_64 rfl (lv_at hl 0 rfl) ?_
  refine va_get (D := D) (ci := 7) (v := .ref l5) (C := RX8) (T := TX8) (N := 14) hx hb hts hinX8 hown hK hP 0 rfl rfl 10 (Nat.le_of_ble_eq_true rfl) hl64 (fun _ h9 => h9) rfl dX8_tiltError_65 ?_
  refine lv_iconst (v := 2) hx hb dX8_tiltError_68 (by decide) ?_
  refine z_lald hx hb hK hP 14 rfl 2 zx2 (by decide) (v := (crs (upb (u.1 0)) (upb (u.1 1))) 2) rfl dX8_tiltError_69 ?_
  refine lv_bipush (v := 28) hx hb dX8_tiltError_70 (by decide) ?_
  refine lv_lshr (v := sar ((crs (upb (u.1 0)) (upb (u.1 1))) 2) 28) hx hb dX8_tiltError_72 rfl ?_
  refine z_calll0 (wc := []) (wr := [(hm, .inr (7, [.ref p0, .ref c0, .ref n0, .ref b0, .ref e0, .ref f0, .ref l1, .ref l2, .ref l3, .ref l4, .ref l5, .int (u.2.1 11 2), .int (msk (u.2.2.2 1)), .long (u.1 9 0)])), (e0, .inr (4, [.ref g0, .ref q0, .ref e1, .ref e2, .ref e3, .ref e4, .ref e5, .ref e6, .ref e7, .int (u.2.1 11 3), .int (u.2.1 11 4), .int (u.2.1 11 5)])), (p0, .inr (0, [.ref p1, .ref p2, .ref p3, .ref p4, .ref p5])), (p5, zaG k 3 (gr3 p6 p7 p8)), (p6, zaJ k 3 (mrow0 (u.1 0))), (p7, zaJ k 3 (mrow1 (u.1 0))), (p8, zaJ k 3 (mrow2 (u.1 0))), (g0, .inr (0, [.ref g1, .ref g2, .ref g3, .ref g4, .ref g5])), (g5, zaG k 3 (gr3 g6 g7 g8)), (g6, zaJ k 3 (mrow0 (u.1 1))), (g7, zaJ k 3 (mrow1 (u.1 1))), (g8, zaJ k 3 (mrow2 (u.1 1))), (l3, zaJ k 3 (upb (u.1 0))), (l4, zaJ k 3 (upb (u.1 1))), (l5, zaJ k 3 (crs (upb (u.1 0)) (upb (u.1 1))))]) (va_runS (As := [.long (sar ((crs (upb (u.1 0)) (upb (u.1 1))) 0) 28), .long (sar ((crs (upb (u.1 0)) (upb (u.1 1))) 1) 28), .long (sar ((crs (upb (u.1 0)) (upb (u.1 1))) 2) 28)]) (rest := []) ⟨hx, hb, hml, hown, hts⟩ (c_X5_length l D k H.size (sar ((crs (upb (u.1 0)) (upb (u.1 1))) 0) 28) (sar ((crs (upb (u.1 0)) (upb (u.1 1))) 1) 28) (sar ((crs (upb (u.1 0)) (upb (u.1 1))) 2) 28) hq) (va_cwS 3 hts gX8_tiltError_X5_length rfl rfl rfl (by decide +kernel) ⟨Nat.le_of_ble_eq_true rfl, Nat.le_of_ble_eq_true rfl⟩) (z_preS (wc := []) hP hD hK [] rfl rfl zb0 zp0) rfl rfl hl.1 rfl (lv_room (Nat.le_of_ble_eq_true rfl)) dX8_tiltError_73 ⟨Nat.zero_le _, Nat.zero_le _⟩) hP hD hS hA [] [0, 1, 2, 3, 4, 5, 6, 7, 8, 9, 10, 11, 12, 13, 14] rfl rfl rfl (by decide) (fun w H locs hF hP hD hS => ?_)
  subst hF
  have hP : va_P D vwCl [(hm, .inr (7, [.ref p0, .ref c0, .ref n0, .ref b0, .ref e0, .ref f0, .ref l1, .ref l2, .ref l3, .ref l4, .ref l5, .int (u.2.1 11 2), .int (msk (u.2.2.2 1)), .long (u.1 9 0)])), (e0, .inr (4, [.ref g0, .ref q0, .ref e1, .ref e2, .ref e3, .ref e4, .ref e5, .ref e6, .ref e7, .int (u.2.1 11 3), .int (u.2.1 11 4), .int (u.2.1 11 5)])), (p0, .inr (0, [.ref p1, .ref p2, .ref p3, .ref p4, .ref p5])), (p5, zaG k 3 (gr3 p6 p7 p8)), (p6, zaJ k 3 (mrow0 (u.1 0))), (p7, zaJ k 3 (mrow1 (u.1 0))), (p8, zaJ k 3 (mrow2 (u.1 0))), (g0, .inr (0, [.ref g1, .ref g2, .ref g3, .ref g4, .ref g5])), (g5, zaG k 3 (gr3 g6 g7 g8)), (g6, zaJ k 3 (mrow0 (u.1 1))), (g7, zaJ k 3 (mrow1 (u.1 1))), (g8, zaJ k 3 (mrow2 (u.1 1))), (l3, zaJ k 3 (upb (u.1 0))), (l4, zaJ k 3 (upb (u.1 1))), (l5, zaJ k 3 (crs (upb (u.1 0)) (upb (u.1 1))))] H := hP
  have hD : va_D A [(hm, .inr (7, [.ref p0, .ref c0, .ref n0, .ref b0, .ref e0, .ref f0, .ref l1, .ref l2, .ref l3, .ref l4, .ref l5, .int (u.2.1 11 2), .int (msk (u.2.2.2 1)), .long (u.1 9 0)])), (e0, .inr (4, [.ref g0, .ref q0, .ref e1, .ref e2, .ref e3, .ref e4, .ref e5, .ref e6, .ref e7, .int (u.2.1 11 3), .int (u.2.1 11 4), .int (u.2.1 11 5)])), (p0, .inr (0, [.ref p1, .ref p2, .ref p3, .ref p4, .ref p5])), (p5, zaG k 3 (gr3 p6 p7 p8)), (p6, zaJ k 3 (mrow0 (u.1 0))), (p7, zaJ k 3 (mrow1 (u.1 0))), (p8, zaJ k 3 (mrow2 (u.1 0))), (g0, .inr (0, [.ref g1, .ref g2, .ref g3, .ref g4, .ref g5])), (g5, zaG k 3 (gr3 g6 g7 g8)), (g6, zaJ k 3 (mrow0 (u.1 1))), (g7, zaJ k 3 (mrow1 (u.1 1))), (g8, zaJ k 3 (mrow2 (u.1 1))), (l3, zaJ k 3 (upb (u.1 0))), (l4, zaJ k 3 (upb (u.1 1))), (l5, zaJ k 3 (crs (upb (u.1 0)) (upb (u.1 1))))] := hD
  have hP9 := hP.sub (ws' := [(hm, .inr (7, [.ref p0, .ref c0, .ref n0, .ref b0, .ref e0, .ref f0, .ref l1, .ref l2, .ref l3, .ref l4, .ref l5, .int (u.2.1 11 2), .int (msk (u.2.2.2 1)), .long (u.1 9 0)])), (p0, .inr (0, [.ref p1, .ref p2, .ref p3, .ref p4, .ref p5])), (p5, zaG k 3 (gr3 p6 p7 p8)), (p6, zaJ k 3 (mrow0 (u.1 0))), (p7, zaJ k 3 (mrow1 (u.1 0))), (p8, zaJ k 3 (mrow2 (u.1 0))), (e0, .inr (4, [.ref g0, .ref q0, .ref e1, .ref e2, .ref e3, .ref e4, .ref e5, .ref e6, .ref e7, .int (u.2.1 11 3), .int (u.2.1 11 4), .int (u.2.1 11 5)])), (g0, .inr (0, [.ref g1, .ref g2, .ref g3, .ref g4, .ref g5])), (g5, zaG k 3 (gr3 g6 g7 g8)), (g6, zaJ k 3 (mrow0 (u.1 1))), (g7, zaJ k 3 (mrow1 (u.1 1))), (g8, zaJ k 3 (mrow2 (u.1 1))), (l3, zaJ k 3 (upb (u.1 0))), (l4, zaJ k 3 (upb (u.1 1))), (l5, zaJ k 3 (crs (upb (u.1 0)) (upb (u.1 1))))]) [0, 2, 3, 4, 5, 6, 1, 7, 8, 9, 10, 11, 12, 13, 14] rfl
  have hD9 := hD.sub (ws' := [(hm, .inr (7, [.ref p0, .ref c0, .ref n0, .ref b0, .ref e0, .ref f0, .ref l1, .ref l2, .ref l3, .ref l4, .ref l5, .int (u.2.1 11 2), .int (msk (u.2.2.2 1)), .long (u.1 9 0)])), (p0, .inr (0, [.ref p1, .ref p2, .ref p3, .ref p4, .ref p5])), (p5, zaG k 3 (gr3 p6 p7 p8)), (p6, zaJ k 3 (mrow0 (u.1 0))), (p7, zaJ k 3 (mrow1 (u.1 0))), (p8, zaJ k 3 (mrow2 (u.1 0))), (e0, .inr (4, [.ref g0, .ref q0, .ref e1, .ref e2, .ref e3, .ref e4, .ref e5, .ref e6, .ref e7, .int (u.2.1 11 3), .int (u.2.1 11 4), .int (u.2.1 11 5)])), (g0, .inr (0, [.ref g1, .ref g2, .ref g3, .ref g4, .ref g5])), (g5, zaG k 3 (gr3 g6 g7 g8)), (g6, zaJ k 3 (mrow0 (u.1 1))), (g7, zaJ k 3 (mrow1 (u.1 1))), (g8, zaJ k 3 (mrow2 (u.1 1))), (l3, zaJ k 3 (upb (u.1 0))), (l4, zaJ k 3 (upb (u.1 1))), (l5, zaJ k 3 (crs (upb (u.1 0)) (upb (u.1 1))))]) [0, 2, 3, 4, 5, 6, 1, 7, 8, 9, 10, 11, 12, 13, 14] (by decide) rfl
  exact W.lret (v := isq (sq3 (sar ((crs (upb (u.1 0)) (upb (u.1 1))) 0) 28) (sar ((crs (upb (u.1 0)) (upb (u.1 1))) 1) 28) (sar ((crs (upb (u.1 0)) (upb (u.1 1))) 2) 28))) hx hb hr (fun t9 ht9 hW9 => ⟨⟨(isq (sq3 (sar ((crs (upb (u.1 0)) (upb (u.1 1))) 0) 28) (sar ((crs (upb (u.1 0)) (upb (u.1 1))) 1) 28) (sar ((crs (upb (u.1 0)) (upb (u.1 1))) 2) 28))), [(hm, .inr (7, [.ref p0, .ref c0, .ref n0, .ref b0, .ref e0, .ref f0, .ref l1, .ref l2, .ref l3, .ref l4, .ref l5, .int (u.2.1 11 2), .int (msk (u.2.2.2 1)), .long (u.1 9 0)])), (p0, .inr (0, [.ref p1, .ref p2, .ref p3, .ref p4, .ref p5])), (p5, zaG k 3 (gr3 p6 p7 p8)), (p6, zaJ k 3 (mrow0 (u.1 0))), (p7, zaJ k 3 (mrow1 (u.1 0))), (p8, zaJ k 3 (mrow2 (u.1 0))), (e0, .inr (4, [.ref g0, .ref q0, .ref e1, .ref e2, .ref e3, .ref e4, .ref e5, .ref e6, .ref e7, .int (u.2.1 11 3), .int (u.2.1 11 4), .int (u.2.1 11 5)])), (g0, .inr (0, [.ref g1, .ref g2, .ref g3, .ref g4, .ref g5])), (g5, zaG k 3 (gr3 g6 g7 g8)), (g6, zaJ k 3 (mrow0 (u.1 1))), (g7, zaJ k 3 (mrow1 (u.1 1))), (g8, zaJ k 3 (mrow2 (u.1 1))), (l3, zaJ k 3 (upb (u.1 0))), (l4, zaJ k 3 (upb (u.1 1))), (l5, zaJ k 3 (crs (upb (u.1 0)) (upb (u.1 1))))], rfl, ⟨by rfl, ⟨(upb (u.1 0)), (upb (u.1 1)), (crs (upb (u.1 0)) (upb (u.1 1))), rfl⟩⟩, by rw [ht9]; exact hP9, hD9⟩, hS.F ht9⟩) hS.2.2 dX8_tiltError_76
set_option maxHeartbeats 4000000 in
set_option maxRecDepth 100000 in
theorem c_X8_toNav0 (l : Launch) (D : va_G) (k : Nat → ClassId) (sz : Nat) (hm p0 c0 n0 b0 e0 e1 e2 e3 e4 e5 e6 e7 g0 g1 g2 g3 g4 g5 g6 g7 g8 q0 f0 l1 l2 l3 l4 l5 : Nat) (u : zS) (x y z : Int32) (h0 : ((zin x (-268435456) 268435456 && (zin y (-268435456) 268435456 && zin z (-268435456) 268435456))) = true) : Met l yX8_toNavigation wsX8_toNavigation ({ frames := 2, cells := 0, slots := 0, locals := 47 } : Room) (va_Pc [.ref hm, .int x, .int y, .int z, .int 0] (zPre D k [(hm, .inr (7, [.ref p0, .ref c0, .ref n0, .ref b0, .ref e0, .ref f0, .ref l1, .ref l2, .ref l3, .ref l4, .ref l5, .int (u.2.1 11 2), .int (msk (u.2.2.2 1)), .long (u.1 9 0)])), (e0, .inr (4, [.ref g0, .ref q0, .ref e1, .ref e2, .ref e3, .ref e4, .ref e5, .ref e6, .ref e7, .int (u.2.1 11 3), .int (u.2.1 11 4), .int (u.2.1 11 5)])), (g0, .inr (0, [.ref g1, .ref g2, .ref g3, .ref g4, .ref g5])), (g5, zaG k 3 (gr3 g6 g7 g8)), (g6, zaJ k 3 (mrow0 (u.1 1))), (g7, zaJ k 3 (mrow1 (u.1 1))), (g8, zaJ k 3 (mrow2 (u.1 1)))] sz zN)) (zQl D [(hm, .inr (7, [.ref p0, .ref c0, .ref n0, .ref b0, .ref e0, .ref f0, .ref l1, .ref l2, .ref l3, .ref l4, .ref l5, .int (u.2.1 11 2), .int (msk (u.2.2.2 1)), .long (u.1 9 0)])), (e0, .inr (4, [.ref g0, .ref q0, .ref e1, .ref e2, .ref e3, .ref e4, .ref e5, .ref e6, .ref e7, .int (u.2.1 11 3), .int (u.2.1 11 4), .int (u.2.1 11 5)])), (g0, .inr (0, [.ref g1, .ref g2, .ref g3, .ref g4, .ref g5])), (g5, zaG k 3 (gr3 g6 g7 g8)), (g6, zaJ k 3 (mrow0 (u.1 1))), (g7, zaJ k 3 (mrow1 (u.1 1))), (g8, zaJ k 3 (mrow2 (u.1 1)))] sz (navr (mrow0 (u.1 1)) x.toInt64 y.toInt64 z.toInt64) (fun w : va_W => w = [(hm, .inr (7, [.ref p0, .ref c0, .ref n0, .ref b0, .ref e0, .ref f0, .ref l1, .ref l2, .ref l3, .ref l4, .ref l5, .int (u.2.1 11 2), .int (msk (u.2.2.2 1)), .long (u.1 9 0)])), (e0, .inr (4, [.ref g0, .ref q0, .ref e1, .ref e2, .ref e3, .ref e4, .ref e5, .ref e6, .ref e7, .int (u.2.1 11 3), .int (u.2.1 11 4), .int (u.2.1 11 5)])), (g0, .inr (0, [.ref g1, .ref g2, .ref g3, .ref g4, .ref g5])), (g5, zaG k 3 (gr3 g6 g7 g8)), (g6, zaJ k 3 (mrow0 (u.1 1))), (g7, zaJ k 3 (mrow1 (u.1 1))), (g8, zaJ k 3 (mrow2 (u.1 1)))])) 0 0 (va_A [(hm, .inr (7, [.ref p0, .ref c0, .ref n0, .ref b0, .ref e0, .ref f0, .ref l1, .ref l2, .ref l3, .ref l4, .ref l5, .int (u.2.1 11 2), .int (msk (u.2.2.2 1)), .long (u.1 9 0)])), (e0, .inr (4, [.ref g0, .ref q0, .ref e1, .ref e2, .ref e3, .ref e4, .ref e5, .ref e6, .ref e7, .int (u.2.1 11 3), .int (u.2.1 11 4), .int (u.2.1 11 5)])), (g0, .inr (0, [.ref g1, .ref g2, .ref g3, .ref g4, .ref g5])), (g5, zaG k 3 (gr3 g6 g7 g8)), (g6, zaJ k 3 (mrow0 (u.1 1))), (g7, zaJ k 3 (mrow1 (u.1 1))), (g8, zaJ k 3 (mrow2 (u.1 1)))] sz) := by
  refine Met.ofW (cc := cX8_toNavigation) (maxL := 5) (ret := (some .long)) (by decide) rfl ?_
  intro p e s m args below meth c s₁ B hml hv
  obtain ⟨rfl, hsz, hP, hK, hD0, hE⟩ := hv
  have hx := B.exec
  have hb := B.bytes
  have hr := B.returns
  have hts := atoms_spec (ws := wsX8_toNavigation) B.pre
  have hown : s.vm.findClass RX8 = some m.cls := findClass_of_methodNamed B.named
  have hlocks := B.notSynchronized
  subst hsz
  have hD := hD0.self (sz := s.heap.size)
  delta zQl zB
  generalize hAe : va_A [(hm, .inr (7, [.ref p0, .ref c0, .ref n0, .ref b0, .ref e0, .ref f0, .ref l1, .ref l2, .ref l3, .ref l4, .ref l5, .int (u.2.1 11 2), .int (msk (u.2.2.2 1)), .long (u.1 9 0)])), (e0, .inr (4, [.ref g0, .ref q0, .ref e1, .ref e2, .ref e3, .ref e4, .ref e5, .ref e6, .ref e7, .int (u.2.1 11 3), .int (u.2.1 11 4), .int (u.2.1 11 5)])), (g0, .inr (0, [.ref g1, .ref g2, .ref g3, .ref g4, .ref g5])), (g5, zaG k 3 (gr3 g6 g7 g8)), (g6, zaJ k 3 (mrow0 (u.1 1))), (g7, zaJ k 3 (mrow1 (u.1 1))), (g8, zaJ k 3 (mrow2 (u.1 1)))] s.heap.size = A at hD hE ⊢
  have hA : ∀ q : Nat, s.heap.size ≤ q → A q := fun q h => by rw [← hAe]; exact Or.inr h
  have hS : va_S A s.heap s.heap [] := va_S.rf
  have hl := lv_entry [.ref hm, .int x, .int y, .int z, .int 0] (n := 5) (Nat.le_of_ble_eq_true rfl)
  rw [lg_entry_eq]
  generalize (lg_sl [.ref hm, .int x, .int y, .int z, .int 0] ++ List.replicate (5 - (lg_sl [.ref hm, .int x, .int y, .int z, .int 0]).length) Slot.unset).toArray = ls at hl ⊢
  have hl : lv_has ls 5 [(0, .ref hm), (1, .int x), (2, .int y), (3, .int z), (4, .int 0)] := hl
  have hl40 : (Cond.fieldLink RX8 40 "InertialReference" "estimator" "LInertialReference$Estimator;").before #[Value.ref hm, Value.int x, Value.int y, Value.int z, Value.int 0] s = true := zw hts 1 rfl
  have hinX8 : ∀ w ∈ u_ws RX8 TX8 14, w ∈ wsX8_toNavigation := fun w h => List.mem_cons_of_mem _ (List.mem_append_left _ (List.mem_append_left _ (List.mem_append_right _ h)))
  have hl196 : (Cond.fieldLinkNest RX8 196 "InertialReference$Estimator" "attitude" "LInertialReference$Attitude;" "InertialReference").before #[Value.ref hm, Value.int x, Value.int y, Value.int z, Value.int 0] s = true := va_Nw.use rfl (zn_RX8_196 hE)
  have hinX4 : ∀ w ∈ u_ws RX4 TX4 12, w ∈ wsX8_toNavigation := fun w h => List.mem_cons_of_mem _ (List.mem_append_left _ (List.mem_append_right _ h))
  refine lv_iload_n hx hb dX8_toNavigation_0 rfl (lv_at hl 1 rfl) ?_
  refine lv_iload_n hx hb dX8_toNavigation_1 rfl (lv_at hl 2 rfl) ?_
  refine lv_iload_n hx hb dX8_toNavigation_2 rfl (lv_at hl 3 rfl) ?_
  refine z_calli0 (wc := []) (wr := [(hm, .inr (7, [.ref p0, .ref c0, .ref n0, .ref b0, .ref e0, .ref f0, .ref l1, .ref l2, .ref l3, .ref l4, .ref l5, .int (u.2.1 11 2), .int (msk (u.2.2.2 1)), .long (u.1 9 0)])), (e0, .inr (4, [.ref g0, .ref q0, .ref e1, .ref e2, .ref e3, .ref e4, .ref e5, .ref e6, .ref e7, .int (u.2.1 11 3), .int (u.2.1 11 4), .int (u.2.1 11 5)])), (g0, .inr (0, [.ref g1, .ref g2, .ref g3, .ref g4, .ref g5])), (g5, zaG k 3 (gr3 g6 g7 g8)), (g6, zaJ k 3 (mrow0 (u.1 1))), (g7, zaJ k 3 (mrow1 (u.1 1))), (g8, zaJ k 3 (mrow2 (u.1 1)))]) (va_runS (As := [.int x, .int y, .int z]) (rest := []) ⟨hx, hb, hml, hown, hts⟩ (c_X8_isUnitVector l D k s.heap.size x y z) (va_cwS 3 hts gX8_toNavigation_X8_isUnitVector rfl rfl rfl (by decide +kernel) ⟨Nat.le_of_ble_eq_true rfl, Nat.le_of_ble_eq_true rfl⟩) (z_preS (wc := []) hP hD hK [] rfl rfl zb0 zp0) rfl rfl hl.1 rfl (lv_room (Nat.le_of_ble_eq_true rfl)) dX8_toNavigation_3 ⟨Nat.zero_le _, Nat.zero_le _⟩) hP hD hS hA [] [0, 1, 2, 3, 4, 5, 6] rfl rfl rfl (by decide) (fun w H locs hF hP hD hS => ?_)
  subst hF
  have hP : va_P D vwCl [(hm, .inr (7, [.ref p0, .ref c0, .ref n0, .ref b0, .ref e0, .ref f0, .ref l1, .ref l2, .ref l3, .ref l4, .ref l5, .int (u.2.1 11 2), .int (msk (u.2.2.2 1)), .long (u.1 9 0)])), (e0, .inr (4, [.ref g0, .ref q0, .ref e1, .ref e2, .ref e3, .ref e4, .ref e5, .ref e6, .ref e7, .int (u.2.1 11 3), .int (u.2.1 11 4), .int (u.2.1 11 5)])), (g0, .inr (0, [.ref g1, .ref g2, .ref g3, .ref g4, .ref g5])), (g5, zaG k 3 (gr3 g6 g7 g8)), (g6, zaJ k 3 (mrow0 (u.1 1))), (g7, zaJ k 3 (mrow1 (u.1 1))), (g8, zaJ k 3 (mrow2 (u.1 1)))] H := hP
  have hD : va_D A [(hm, .inr (7, [.ref p0, .ref c0, .ref n0, .ref b0, .ref e0, .ref f0, .ref l1, .ref l2, .ref l3, .ref l4, .ref l5, .int (u.2.1 11 2), .int (msk (u.2.2.2 1)), .long (u.1 9 0)])), (e0, .inr (4, [.ref g0, .ref q0, .ref e1, .ref e2, .ref e3, .ref e4, .ref e5, .ref e6, .ref e7, .int (u.2.1 11 3), .int (u.2.1 11 4), .int (u.2.1 11 5)])), (g0, .inr (0, [.ref g1, .ref g2, .ref g3, .ref g4, .ref g5])), (g5, zaG k 3 (gr3 g6 g7 g8)), (g6, zaJ k 3 (mrow0 (u.1 1))), (g7, zaJ k 3 (mrow1 (u.1 1))), (g8, zaJ k 3 (mrow2 (u.1 1)))] := hD
  refine lv_if_eq (tgt := 17) hx hb dX8_toNavigation_6 (by decide) (fun c_1 => ?_) (fun c_1 => ?_)
  · skip
    have c_1 := zb_e c_1
    first | exact absurd (c_1.symm.trans h0) (by decide) | exact absurd c_1 (by decide)
  · skip
    have c_1 := zb_n c_1
    refine lv_iload hx hb dX8_toNavigation_9 (lv_at hl 4 rfl) ?_
    refine z_calli0 (wc := []) (wr := [(hm, .inr (7, [.ref p0, .ref c0, .ref n0, .ref b0, .ref e0, .ref f0, .ref l1, .ref l2, .ref l3, .ref l4, .ref l5, .int (u.2.1 11 2), .int (msk (u.2.2.2 1)), .long (u.1 9 0)])), (e0, .inr (4, [.ref g0, .ref q0, .ref e1, .ref e2, .ref e3, .ref e4, .ref e5, .ref e6, .ref e7, .int (u.2.1 11 3), .int (u.2.1 11 4), .int (u.2.1 11 5)])), (g0, .inr (0, [.ref g1, .ref g2, .ref g3, .ref g4, .ref g5])), (g5, zaG k 3 (gr3 g6 g7 g8)), (g6, zaJ k 3 (mrow0 (u.1 1))), (g7, zaJ k 3 (mrow1 (u.1 1))), (g8, zaJ k 3 (mrow2 (u.1 1)))]) (va_runS (As := [.int 0]) (rest := []) ⟨hx, hb, hml, hown, hts⟩ (c_X5_isAxis l D k H.size 0) (va_cwS 1 hts gX8_toNavigation_X5_isAxis rfl rfl rfl (by decide +kernel) ⟨Nat.le_of_ble_eq_true rfl, Nat.le_of_ble_eq_true rfl⟩) (z_preS (wc := []) hP hD hK [] rfl rfl zb0 zp0) rfl rfl hl.1 rfl (lv_room (Nat.le_of_ble_eq_true rfl)) dX8_toNavigation_11 ⟨Nat.zero_le _, Nat.zero_le _⟩) hP hD hS hA [] [0, 1, 2, 3, 4, 5, 6] rfl rfl rfl (by decide) (fun w H locs hF hP hD hS => ?_)
    subst hF
    have hP : va_P D vwCl [(hm, .inr (7, [.ref p0, .ref c0, .ref n0, .ref b0, .ref e0, .ref f0, .ref l1, .ref l2, .ref l3, .ref l4, .ref l5, .int (u.2.1 11 2), .int (msk (u.2.2.2 1)), .long (u.1 9 0)])), (e0, .inr (4, [.ref g0, .ref q0, .ref e1, .ref e2, .ref e3, .ref e4, .ref e5, .ref e6, .ref e7, .int (u.2.1 11 3), .int (u.2.1 11 4), .int (u.2.1 11 5)])), (g0, .inr (0, [.ref g1, .ref g2, .ref g3, .ref g4, .ref g5])), (g5, zaG k 3 (gr3 g6 g7 g8)), (g6, zaJ k 3 (mrow0 (u.1 1))), (g7, zaJ k 3 (mrow1 (u.1 1))), (g8, zaJ k 3 (mrow2 (u.1 1)))] H := hP
    have hD : va_D A [(hm, .inr (7, [.ref p0, .ref c0, .ref n0, .ref b0, .ref e0, .ref f0, .ref l1, .ref l2, .ref l3, .ref l4, .ref l5, .int (u.2.1 11 2), .int (msk (u.2.2.2 1)), .long (u.1 9 0)])), (e0, .inr (4, [.ref g0, .ref q0, .ref e1, .ref e2, .ref e3, .ref e4, .ref e5, .ref e6, .ref e7, .int (u.2.1 11 3), .int (u.2.1 11 4), .int (u.2.1 11 5)])), (g0, .inr (0, [.ref g1, .ref g2, .ref g3, .ref g4, .ref g5])), (g5, zaG k 3 (gr3 g6 g7 g8)), (g6, zaJ k 3 (mrow0 (u.1 1))), (g7, zaJ k 3 (mrow1 (u.1 1))), (g8, zaJ k 3 (mrow2 (u.1 1)))] := hD
    refine lv_if_ne (tgt := 19) hx hb dX8_toNavigation_14 (by decide) (fun c_2 => ?_) (fun c_2 => ?_)
    · skip
      have c_2 := zb_n c_2
      refine lv_aload_n hx hb dX8_toNavigation_19 rfl (lv_at hl 0 rfl) ?_
      refine va_get (D := D) (ci := 7) (v := .ref e0) (C := RX8) (T := TX8) (N := 14) hx hb hts hinX8 hown hK hP 0 rfl rfl 4 (Nat.le_of_ble_eq_true rfl) hl40 (fun _ h9 => h9) rfl dX8_toNavigation_20 ?_
      refine va_getN (D := D) (ci := 4) (v := .ref g0) (C := RX4) (T := TX4) (N := 12) hx hb hts hinX4 hown hK hP 1 rfl rfl 0 (Nat.le_of_ble_eq_true rfl) hl196 (fun _ h9 => h9) rfl dX8_toNavigation_23 ?_
      refine lv_iload_n hx hb dX8_toNavigation_26 rfl (lv_at hl 1 rfl) ?_
      refine lv_i2l (v := x.toInt64) hx hb dX8_toNavigation_27 rfl ?_
      refine lv_iload_n hx hb dX8_toNavigation_28 rfl (lv_at hl 2 rfl) ?_
      refine lv_i2l (v := y.toInt64) hx hb dX8_toNavigation_29 rfl ?_
      refine lv_iload_n hx hb dX8_toNavigation_30 rfl (lv_at hl 3 rfl) ?_
      refine lv_i2l (v := z.toInt64) hx hb dX8_toNavigation_31 rfl ?_
      refine lv_iload hx hb dX8_toNavigation_32 (lv_at hl 4 rfl) ?_
      refine z_calll0 (wc := [(g0, .inr (0, [.ref g1, .ref g2, .ref g3, .ref g4, .ref g5])), (g5, zaG k 3 (gr3 g6 g7 g8)), (g6, zaJ k 3 (mrow0 (u.1 1))), (g7, zaJ k 3 (mrow1 (u.1 1))), (g8, zaJ k 3 (mrow2 (u.1 1)))]) (wr := [(hm, .inr (7, [.ref p0, .ref c0, .ref n0, .ref b0, .ref e0, .ref f0, .ref l1, .ref l2, .ref l3, .ref l4, .ref l5, .int (u.2.1 11 2), .int (msk (u.2.2.2 1)), .long (u.1 9 0)])), (e0, .inr (4, [.ref g0, .ref q0, .ref e1, .ref e2, .ref e3, .ref e4, .ref e5, .ref e6, .ref e7, .int (u.2.1 11 3), .int (u.2.1 11 4), .int (u.2.1 11 5)]))]) (va_runV (As := [.long x.toInt64, .long y.toInt64, .long z.toInt64, .int 0]) (rest := []) ⟨hx, hb, hml, hown, hts⟩ (c_X0_nav0 l D k H.size g0 g1 g2 g3 g4 g5 g6 g7 g8 (mrow0 (u.1 1)) (mrow1 (u.1 1)) (mrow2 (u.1 1)) x.toInt64 y.toInt64 z.toInt64) (cwV 4 hts gX8_toNavigation_X0_navigationComponent rfl rfl rfl (by decide +kernel) ⟨Nat.le_of_ble_eq_true rfl, Nat.le_of_ble_eq_true rfl⟩) (z_preV (wc := [(g0, .inr (0, [.ref g1, .ref g2, .ref g3, .ref g4, .ref g5])), (g5, zaG k 3 (gr3 g6 g7 g8)), (g6, zaJ k 3 (mrow0 (u.1 1))), (g7, zaJ k 3 (mrow1 (u.1 1))), (g8, zaJ k 3 (mrow2 (u.1 1)))]) 2 0 hP hD hK [2, 3, 4, 5, 6] rfl rfl rfl rfl zb0 zp0) rfl rfl hl.1 rfl (lv_room (Nat.le_of_ble_eq_true rfl)) dX8_toNavigation_34 ⟨Nat.zero_le _, Nat.zero_le _⟩) hP hD hS hA [2, 3, 4, 5, 6] [0, 1] rfl rfl rfl (by decide) (fun w H locs hF hP hD hS => ?_)
      subst hF
      have hP : va_P D vwCl [(hm, .inr (7, [.ref p0, .ref c0, .ref n0, .ref b0, .ref e0, .ref f0, .ref l1, .ref l2, .ref l3, .ref l4, .ref l5, .int (u.2.1 11 2), .int (msk (u.2.2.2 1)), .long (u.1 9 0)])), (e0, .inr (4, [.ref g0, .ref q0, .ref e1, .ref e2, .ref e3, .ref e4, .ref e5, .ref e6, .ref e7, .int (u.2.1 11 3), .int (u.2.1 11 4), .int (u.2.1 11 5)])), (g0, .inr (0, [.ref g1, .ref g2, .ref g3, .ref g4, .ref g5])), (g5, zaG k 3 (gr3 g6 g7 g8)), (g6, zaJ k 3 (mrow0 (u.1 1))), (g7, zaJ k 3 (mrow1 (u.1 1))), (g8, zaJ k 3 (mrow2 (u.1 1)))] H := hP
      have hD : va_D A [(hm, .inr (7, [.ref p0, .ref c0, .ref n0, .ref b0, .ref e0, .ref f0, .ref l1, .ref l2, .ref l3, .ref l4, .ref l5, .int (u.2.1 11 2), .int (msk (u.2.2.2 1)), .long (u.1 9 0)])), (e0, .inr (4, [.ref g0, .ref q0, .ref e1, .ref e2, .ref e3, .ref e4, .ref e5, .ref e6, .ref e7, .int (u.2.1 11 3), .int (u.2.1 11 4), .int (u.2.1 11 5)])), (g0, .inr (0, [.ref g1, .ref g2, .ref g3, .ref g4, .ref g5])), (g5, zaG k 3 (gr3 g6 g7 g8)), (g6, zaJ k 3 (mrow0 (u.1 1))), (g7, zaJ k 3 (mrow1 (u.1 1))), (g8, zaJ k 3 (mrow2 (u.1 1)))] := hD
      have hP9 := hP.sub (ws' := [(hm, .inr (7, [.ref p0, .ref c0, .ref n0, .ref b0, .ref e0, .ref f0, .ref l1, .ref l2, .ref l3, .ref l4, .ref l5, .int (u.2.1 11 2), .int (msk (u.2.2.2 1)), .long (u.1 9 0)])), (e0, .inr (4, [.ref g0, .ref q0, .ref e1, .ref e2, .ref e3, .ref e4, .ref e5, .ref e6, .ref e7, .int (u.2.1 11 3), .int (u.2.1 11 4), .int (u.2.1 11 5)])), (g0, .inr (0, [.ref g1, .ref g2, .ref g3, .ref g4, .ref g5])), (g5, zaG k 3 (gr3 g6 g7 g8)), (g6, zaJ k 3 (mrow0 (u.1 1))), (g7, zaJ k 3 (mrow1 (u.1 1))), (g8, zaJ k 3 (mrow2 (u.1 1)))]) [0, 1, 2, 3, 4, 5, 6] rfl
      have hD9 := hD.sub (ws' := [(hm, .inr (7, [.ref p0, .ref c0, .ref n0, .ref b0, .ref e0, .ref f0, .ref l1, .ref l2, .ref l3, .ref l4, .ref l5, .int (u.2.1 11 2), .int (msk (u.2.2.2 1)), .long (u.1 9 0)])), (e0, .inr (4, [.ref g0, .ref q0, .ref e1, .ref e2, .ref e3, .ref e4, .ref e5, .ref e6, .ref e7, .int (u.2.1 11 3), .int (u.2.1 11 4), .int (u.2.1 11 5)])), (g0, .inr (0, [.ref g1, .ref g2, .ref g3, .ref g4, .ref g5])), (g5, zaG k 3 (gr3 g6 g7 g8)), (g6, zaJ k 3 (mrow0 (u.1 1))), (g7, zaJ k 3 (mrow1 (u.1 1))), (g8, zaJ k 3 (mrow2 (u.1 1)))]) [0, 1, 2, 3, 4, 5, 6] (by decide) rfl
      exact W.lret (v := navr (mrow0 (u.1 1)) x.toInt64 y.toInt64 z.toInt64) hx hb hr (fun t9 ht9 hW9 => ⟨⟨(navr (mrow0 (u.1 1)) x.toInt64 y.toInt64 z.toInt64), [(hm, .inr (7, [.ref p0, .ref c0, .ref n0, .ref b0, .ref e0, .ref f0, .ref l1, .ref l2, .ref l3, .ref l4, .ref l5, .int (u.2.1 11 2), .int (msk (u.2.2.2 1)), .long (u.1 9 0)])), (e0, .inr (4, [.ref g0, .ref q0, .ref e1, .ref e2, .ref e3, .ref e4, .ref e5, .ref e6, .ref e7, .int (u.2.1 11 3), .int (u.2.1 11 4), .int (u.2.1 11 5)])), (g0, .inr (0, [.ref g1, .ref g2, .ref g3, .ref g4, .ref g5])), (g5, zaG k 3 (gr3 g6 g7 g8)), (g6, zaJ k 3 (mrow0 (u.1 1))), (g7, zaJ k 3 (mrow1 (u.1 1))), (g8, zaJ k 3 (mrow2 (u.1 1)))], rfl, ⟨rfl, rfl⟩, by rw [ht9]; exact hP9, hD9⟩, hS.F ht9⟩) hS.2.2 dX8_toNavigation_37
    · skip
      have c_2 := zb_e c_2
      first | exact absurd (c_2.symm.trans h0) (by decide) | exact absurd c_2 (by decide)
set_option maxHeartbeats 4000000 in
set_option maxRecDepth 100000 in
theorem c_X8_toNav1 (l : Launch) (D : va_G) (k : Nat → ClassId) (sz : Nat) (hm p0 c0 n0 b0 e0 e1 e2 e3 e4 e5 e6 e7 g0 g1 g2 g3 g4 g5 g6 g7 g8 q0 f0 l1 l2 l3 l4 l5 : Nat) (u : zS) (x y z : Int32) (h0 : ((zin x (-268435456) 268435456 && (zin y (-268435456) 268435456 && zin z (-268435456) 268435456))) = true) : Met l yX8_toNavigation wsX8_toNavigation ({ frames := 2, cells := 0, slots := 0, locals := 47 } : Room) (va_Pc [.ref hm, .int x, .int y, .int z, .int 1] (zPre D k [(hm, .inr (7, [.ref p0, .ref c0, .ref n0, .ref b0, .ref e0, .ref f0, .ref l1, .ref l2, .ref l3, .ref l4, .ref l5, .int (u.2.1 11 2), .int (msk (u.2.2.2 1)), .long (u.1 9 0)])), (e0, .inr (4, [.ref g0, .ref q0, .ref e1, .ref e2, .ref e3, .ref e4, .ref e5, .ref e6, .ref e7, .int (u.2.1 11 3), .int (u.2.1 11 4), .int (u.2.1 11 5)])), (g0, .inr (0, [.ref g1, .ref g2, .ref g3, .ref g4, .ref g5])), (g5, zaG k 3 (gr3 g6 g7 g8)), (g6, zaJ k 3 (mrow0 (u.1 1))), (g7, zaJ k 3 (mrow1 (u.1 1))), (g8, zaJ k 3 (mrow2 (u.1 1)))] sz zN)) (zQl D [(hm, .inr (7, [.ref p0, .ref c0, .ref n0, .ref b0, .ref e0, .ref f0, .ref l1, .ref l2, .ref l3, .ref l4, .ref l5, .int (u.2.1 11 2), .int (msk (u.2.2.2 1)), .long (u.1 9 0)])), (e0, .inr (4, [.ref g0, .ref q0, .ref e1, .ref e2, .ref e3, .ref e4, .ref e5, .ref e6, .ref e7, .int (u.2.1 11 3), .int (u.2.1 11 4), .int (u.2.1 11 5)])), (g0, .inr (0, [.ref g1, .ref g2, .ref g3, .ref g4, .ref g5])), (g5, zaG k 3 (gr3 g6 g7 g8)), (g6, zaJ k 3 (mrow0 (u.1 1))), (g7, zaJ k 3 (mrow1 (u.1 1))), (g8, zaJ k 3 (mrow2 (u.1 1)))] sz (navr (mrow1 (u.1 1)) x.toInt64 y.toInt64 z.toInt64) (fun w : va_W => w = [(hm, .inr (7, [.ref p0, .ref c0, .ref n0, .ref b0, .ref e0, .ref f0, .ref l1, .ref l2, .ref l3, .ref l4, .ref l5, .int (u.2.1 11 2), .int (msk (u.2.2.2 1)), .long (u.1 9 0)])), (e0, .inr (4, [.ref g0, .ref q0, .ref e1, .ref e2, .ref e3, .ref e4, .ref e5, .ref e6, .ref e7, .int (u.2.1 11 3), .int (u.2.1 11 4), .int (u.2.1 11 5)])), (g0, .inr (0, [.ref g1, .ref g2, .ref g3, .ref g4, .ref g5])), (g5, zaG k 3 (gr3 g6 g7 g8)), (g6, zaJ k 3 (mrow0 (u.1 1))), (g7, zaJ k 3 (mrow1 (u.1 1))), (g8, zaJ k 3 (mrow2 (u.1 1)))])) 0 0 (va_A [(hm, .inr (7, [.ref p0, .ref c0, .ref n0, .ref b0, .ref e0, .ref f0, .ref l1, .ref l2, .ref l3, .ref l4, .ref l5, .int (u.2.1 11 2), .int (msk (u.2.2.2 1)), .long (u.1 9 0)])), (e0, .inr (4, [.ref g0, .ref q0, .ref e1, .ref e2, .ref e3, .ref e4, .ref e5, .ref e6, .ref e7, .int (u.2.1 11 3), .int (u.2.1 11 4), .int (u.2.1 11 5)])), (g0, .inr (0, [.ref g1, .ref g2, .ref g3, .ref g4, .ref g5])), (g5, zaG k 3 (gr3 g6 g7 g8)), (g6, zaJ k 3 (mrow0 (u.1 1))), (g7, zaJ k 3 (mrow1 (u.1 1))), (g8, zaJ k 3 (mrow2 (u.1 1)))] sz) := by
  refine Met.ofW (cc := cX8_toNavigation) (maxL := 5) (ret := (some .long)) (by decide) rfl ?_
  intro p e s m args below meth c s₁ B hml hv
  obtain ⟨rfl, hsz, hP, hK, hD0, hE⟩ := hv
  have hx := B.exec
  have hb := B.bytes
  have hr := B.returns
  have hts := atoms_spec (ws := wsX8_toNavigation) B.pre
  have hown : s.vm.findClass RX8 = some m.cls := findClass_of_methodNamed B.named
  have hlocks := B.notSynchronized
  subst hsz
  have hD := hD0.self (sz := s.heap.size)
  delta zQl zB
  generalize hAe : va_A [(hm, .inr (7, [.ref p0, .ref c0, .ref n0, .ref b0, .ref e0, .ref f0, .ref l1, .ref l2, .ref l3, .ref l4, .ref l5, .int (u.2.1 11 2), .int (msk (u.2.2.2 1)), .long (u.1 9 0)])), (e0, .inr (4, [.ref g0, .ref q0, .ref e1, .ref e2, .ref e3, .ref e4, .ref e5, .ref e6, .ref e7, .int (u.2.1 11 3), .int (u.2.1 11 4), .int (u.2.1 11 5)])), (g0, .inr (0, [.ref g1, .ref g2, .ref g3, .ref g4, .ref g5])), (g5, zaG k 3 (gr3 g6 g7 g8)), (g6, zaJ k 3 (mrow0 (u.1 1))), (g7, zaJ k 3 (mrow1 (u.1 1))), (g8, zaJ k 3 (mrow2 (u.1 1)))] s.heap.size = A at hD hE ⊢
  have hA : ∀ q : Nat, s.heap.size ≤ q → A q := fun q h => by rw [← hAe]; exact Or.inr h
  have hS : va_S A s.heap s.heap [] := va_S.rf
  have hl := lv_entry [.ref hm, .int x, .int y, .int z, .int 1] (n := 5) (Nat.le_of_ble_eq_true rfl)
  rw [lg_entry_eq]
  generalize (lg_sl [.ref hm, .int x, .int y, .int z, .int 1] ++ List.replicate (5 - (lg_sl [.ref hm, .int x, .int y, .int z, .int 1]).length) Slot.unset).toArray = ls at hl ⊢
  have hl : lv_has ls 5 [(0, .ref hm), (1, .int x), (2, .int y), (3, .int z), (4, .int 1)] := hl
  have hl40 : (Cond.fieldLink RX8 40 "InertialReference" "estimator" "LInertialReference$Estimator;").before #[Value.ref hm, Value.int x, Value.int y, Value.int z, Value.int 1] s = true := zw hts 1 rfl
  have hinX8 : ∀ w ∈ u_ws RX8 TX8 14, w ∈ wsX8_toNavigation := fun w h => List.mem_cons_of_mem _ (List.mem_append_left _ (List.mem_append_left _ (List.mem_append_right _ h)))
  have hl196 : (Cond.fieldLinkNest RX8 196 "InertialReference$Estimator" "attitude" "LInertialReference$Attitude;" "InertialReference").before #[Value.ref hm, Value.int x, Value.int y, Value.int z, Value.int 1] s = true := va_Nw.use rfl (zn_RX8_196 hE)
  have hinX4 : ∀ w ∈ u_ws RX4 TX4 12, w ∈ wsX8_toNavigation := fun w h => List.mem_cons_of_mem _ (List.mem_append_left _ (List.mem_append_right _ h))
  refine lv_iload_n hx hb dX8_toNavigation_0 rfl (lv_at hl 1 rfl) ?_
  refine lv_iload_n hx hb dX8_toNavigation_1 rfl (lv_at hl 2 rfl) ?_
  refine lv_iload_n hx hb dX8_toNavigation_2 rfl (lv_at hl 3 rfl) ?_
  refine z_calli0 (wc := []) (wr := [(hm, .inr (7, [.ref p0, .ref c0, .ref n0, .ref b0, .ref e0, .ref f0, .ref l1, .ref l2, .ref l3, .ref l4, .ref l5, .int (u.2.1 11 2), .int (msk (u.2.2.2 1)), .long (u.1 9 0)])), (e0, .inr (4, [.ref g0, .ref q0, .ref e1, .ref e2, .ref e3, .ref e4, .ref e5, .ref e6, .ref e7, .int (u.2.1 11 3), .int (u.2.1 11 4), .int (u.2.1 11 5)])), (g0, .inr (0, [.ref g1, .ref g2, .ref g3, .ref g4, .ref g5])), (g5, zaG k 3 (gr3 g6 g7 g8)), (g6, zaJ k 3 (mrow0 (u.1 1))), (g7, zaJ k 3 (mrow1 (u.1 1))), (g8, zaJ k 3 (mrow2 (u.1 1)))]) (va_runS (As := [.int x, .int y, .int z]) (rest := []) ⟨hx, hb, hml, hown, hts⟩ (c_X8_isUnitVector l D k s.heap.size x y z) (va_cwS 3 hts gX8_toNavigation_X8_isUnitVector rfl rfl rfl (by decide +kernel) ⟨Nat.le_of_ble_eq_true rfl, Nat.le_of_ble_eq_true rfl⟩) (z_preS (wc := []) hP hD hK [] rfl rfl zb0 zp0) rfl rfl hl.1 rfl (lv_room (Nat.le_of_ble_eq_true rfl)) dX8_toNavigation_3 ⟨Nat.zero_le _, Nat.zero_le _⟩) hP hD hS hA [] [0, 1, 2, 3, 4, 5, 6] rfl rfl rfl (by decide) (fun w H locs hF hP hD hS => ?_)
  subst hF
  have hP : va_P D vwCl [(hm, .inr (7, [.ref p0, .ref c0, .ref n0, .ref b0, .ref e0, .ref f0, .ref l1, .ref l2, .ref l3, .ref l4, .ref l5, .int (u.2.1 11 2), .int (msk (u.2.2.2 1)), .long (u.1 9 0)])), (e0, .inr (4, [.ref g0, .ref q0, .ref e1, .ref e2, .ref e3, .ref e4, .ref e5, .ref e6, .ref e7, .int (u.2.1 11 3), .int (u.2.1 11 4), .int (u.2.1 11 5)])), (g0, .inr (0, [.ref g1, .ref g2, .ref g3, .ref g4, .ref g5])), (g5, zaG k 3 (gr3 g6 g7 g8)), (g6, zaJ k 3 (mrow0 (u.1 1))), (g7, zaJ k 3 (mrow1 (u.1 1))), (g8, zaJ k 3 (mrow2 (u.1 1)))] H := hP
  have hD : va_D A [(hm, .inr (7, [.ref p0, .ref c0, .ref n0, .ref b0, .ref e0, .ref f0, .ref l1, .ref l2, .ref l3, .ref l4, .ref l5, .int (u.2.1 11 2), .int (msk (u.2.2.2 1)), .long (u.1 9 0)])), (e0, .inr (4, [.ref g0, .ref q0, .ref e1, .ref e2, .ref e3, .ref e4, .ref e5, .ref e6, .ref e7, .int (u.2.1 11 3), .int (u.2.1 11 4), .int (u.2.1 11 5)])), (g0, .inr (0, [.ref g1, .ref g2, .ref g3, .ref g4, .ref g5])), (g5, zaG k 3 (gr3 g6 g7 g8)), (g6, zaJ k 3 (mrow0 (u.1 1))), (g7, zaJ k 3 (mrow1 (u.1 1))), (g8, zaJ k 3 (mrow2 (u.1 1)))] := hD
  refine lv_if_eq (tgt := 17) hx hb dX8_toNavigation_6 (by decide) (fun c_1 => ?_) (fun c_1 => ?_)
  · skip
    have c_1 := zb_e c_1
    first | exact absurd (c_1.symm.trans h0) (by decide) | exact absurd c_1 (by decide)
  · skip
    have c_1 := zb_n c_1
    refine lv_iload hx hb dX8_toNavigation_9 (lv_at hl 4 rfl) ?_
    refine z_calli0 (wc := []) (wr := [(hm, .inr (7, [.ref p0, .ref c0, .ref n0, .ref b0, .ref e0, .ref f0, .ref l1, .ref l2, .ref l3, .ref l4, .ref l5, .int (u.2.1 11 2), .int (msk (u.2.2.2 1)), .long (u.1 9 0)])), (e0, .inr (4, [.ref g0, .ref q0, .ref e1, .ref e2, .ref e3, .ref e4, .ref e5, .ref e6, .ref e7, .int (u.2.1 11 3), .int (u.2.1 11 4), .int (u.2.1 11 5)])), (g0, .inr (0, [.ref g1, .ref g2, .ref g3, .ref g4, .ref g5])), (g5, zaG k 3 (gr3 g6 g7 g8)), (g6, zaJ k 3 (mrow0 (u.1 1))), (g7, zaJ k 3 (mrow1 (u.1 1))), (g8, zaJ k 3 (mrow2 (u.1 1)))]) (va_runS (As := [.int 1]) (rest := []) ⟨hx, hb, hml, hown, hts⟩ (c_X5_isAxis l D k H.size 1) (va_cwS 1 hts gX8_toNavigation_X5_isAxis rfl rfl rfl (by decide +kernel) ⟨Nat.le_of_ble_eq_true rfl, Nat.le_of_ble_eq_true rfl⟩) (z_preS (wc := []) hP hD hK [] rfl rfl zb0 zp0) rfl rfl hl.1 rfl (lv_room (Nat.le_of_ble_eq_true rfl)) dX8_toNavigation_11 ⟨Nat.zero_le _, Nat.zero_le _⟩) hP hD hS hA [] [0, 1, 2, 3, 4, 5, 6] rfl rfl rfl (by decide) (fun w H locs hF hP hD hS => ?_)
    subst hF
    have hP : va_P D vwCl [(hm, .inr (7, [.ref p0, .ref c0, .ref n0, .ref b0, .ref e0, .ref f0, .ref l1, .ref l2, .ref l3, .ref l4, .ref l5, .int (u.2.1 11 2), .int (msk (u.2.2.2 1)), .long (u.1 9 0)])), (e0, .inr (4, [.ref g0, .ref q0, .ref e1, .ref e2, .ref e3, .ref e4, .ref e5, .ref e6, .ref e7, .int (u.2.1 11 3), .int (u.2.1 11 4), .int (u.2.1 11 5)])), (g0, .inr (0, [.ref g1, .ref g2, .ref g3, .ref g4, .ref g5])), (g5, zaG k 3 (gr3 g6 g7 g8)), (g6, zaJ k 3 (mrow0 (u.1 1))), (g7, zaJ k 3 (mrow1 (u.1 1))), (g8, zaJ k 3 (mrow2 (u.1 1)))] H := hP
    have hD : va_D A [(hm, .inr (7, [.ref p0, .ref c0, .ref n0, .ref b0, .ref e0, .ref f0, .ref l1, .ref l2, .ref l3, .ref l4, .ref l5, .int (u.2.1 11 2), .int (msk (u.2.2.2 1)), .long (u.1 9 0)])), (e0, .inr (4, [.ref g0, .ref q0, .ref e1, .ref e2, .ref e3, .ref e4, .ref e5, .ref e6, .ref e7, .int (u.2.1 11 3), .int (u.2.1 11 4), .int (u.2.1 11 5)])), (g0, .inr (0, [.ref g1, .ref g2, .ref g3, .ref g4, .ref g5])), (g5, zaG k 3 (gr3 g6 g7 g8)), (g6, zaJ k 3 (mrow0 (u.1 1))), (g7, zaJ k 3 (mrow1 (u.1 1))), (g8, zaJ k 3 (mrow2 (u.1 1)))] := hD
    refine lv_if_ne (tgt := 19) hx hb dX8_toNavigation_14 (by decide) (fun c_2 => ?_) (fun c_2 => ?_)
    · skip
      have c_2 := zb_n c_2
      refine lv_aload_n hx hb dX8_toNavigation_19 rfl (lv_at hl 0 rfl) ?_
      refine va_get (D := D) (ci := 7) (v := .ref e0) (C := RX8) (T := TX8) (N := 14) hx hb hts hinX8 hown hK hP 0 rfl rfl 4 (Nat.le_of_ble_eq_true rfl) hl40 (fun _ h9 => h9) rfl dX8_toNavigation_20 ?_
      refine va_getN (D := D) (ci := 4) (v := .ref g0) (C := RX4) (T := TX4) (N := 12) hx hb hts hinX4 hown hK hP 1 rfl rfl 0 (Nat.le_of_ble_eq_true rfl) hl196 (fun _ h9 => h9) rfl dX8_toNavigation_23 ?_
      refine lv_iload_n hx hb dX8_toNavigation_26 rfl (lv_at hl 1 rfl) ?_
      refine lv_i2l (v := x.toInt64) hx hb dX8_toNavigation_27 rfl ?_
      refine lv_iload_n hx hb dX8_toNavigation_28 rfl (lv_at hl 2 rfl) ?_
      refine lv_i2l (v := y.toInt64) hx hb dX8_toNavigation_29 rfl ?_
      refine lv_iload_n hx hb dX8_toNavigation_30 rfl (lv_at hl 3 rfl) ?_
      refine lv_i2l (v := z.toInt64) hx hb dX8_toNavigation_31 rfl ?_
      refine lv_iload hx hb dX8_toNavigation_32 (lv_at hl 4 rfl) ?_
      refine z_calll0 (wc := [(g0, .inr (0, [.ref g1, .ref g2, .ref g3, .ref g4, .ref g5])), (g5, zaG k 3 (gr3 g6 g7 g8)), (g6, zaJ k 3 (mrow0 (u.1 1))), (g7, zaJ k 3 (mrow1 (u.1 1))), (g8, zaJ k 3 (mrow2 (u.1 1)))]) (wr := [(hm, .inr (7, [.ref p0, .ref c0, .ref n0, .ref b0, .ref e0, .ref f0, .ref l1, .ref l2, .ref l3, .ref l4, .ref l5, .int (u.2.1 11 2), .int (msk (u.2.2.2 1)), .long (u.1 9 0)])), (e0, .inr (4, [.ref g0, .ref q0, .ref e1, .ref e2, .ref e3, .ref e4, .ref e5, .ref e6, .ref e7, .int (u.2.1 11 3), .int (u.2.1 11 4), .int (u.2.1 11 5)]))]) (va_runV (As := [.long x.toInt64, .long y.toInt64, .long z.toInt64, .int 1]) (rest := []) ⟨hx, hb, hml, hown, hts⟩ (c_X0_nav1 l D k H.size g0 g1 g2 g3 g4 g5 g6 g7 g8 (mrow0 (u.1 1)) (mrow1 (u.1 1)) (mrow2 (u.1 1)) x.toInt64 y.toInt64 z.toInt64) (cwV 4 hts gX8_toNavigation_X0_navigationComponent rfl rfl rfl (by decide +kernel) ⟨Nat.le_of_ble_eq_true rfl, Nat.le_of_ble_eq_true rfl⟩) (z_preV (wc := [(g0, .inr (0, [.ref g1, .ref g2, .ref g3, .ref g4, .ref g5])), (g5, zaG k 3 (gr3 g6 g7 g8)), (g6, zaJ k 3 (mrow0 (u.1 1))), (g7, zaJ k 3 (mrow1 (u.1 1))), (g8, zaJ k 3 (mrow2 (u.1 1)))]) 2 0 hP hD hK [2, 3, 4, 5, 6] rfl rfl rfl rfl zb0 zp0) rfl rfl hl.1 rfl (lv_room (Nat.le_of_ble_eq_true rfl)) dX8_toNavigation_34 ⟨Nat.zero_le _, Nat.zero_le _⟩) hP hD hS hA [2, 3, 4, 5, 6] [0, 1] rfl rfl rfl (by decide) (fun w H locs hF hP hD hS => ?_)
      subst hF
      have hP : va_P D vwCl [(hm, .inr (7, [.ref p0, .ref c0, .ref n0, .ref b0, .ref e0, .ref f0, .ref l1, .ref l2, .ref l3, .ref l4, .ref l5, .int (u.2.1 11 2), .int (msk (u.2.2.2 1)), .long (u.1 9 0)])), (e0, .inr (4, [.ref g0, .ref q0, .ref e1, .ref e2, .ref e3, .ref e4, .ref e5, .ref e6, .ref e7, .int (u.2.1 11 3), .int (u.2.1 11 4), .int (u.2.1 11 5)])), (g0, .inr (0, [.ref g1, .ref g2, .ref g3, .ref g4, .ref g5])), (g5, zaG k 3 (gr3 g6 g7 g8)), (g6, zaJ k 3 (mrow0 (u.1 1))), (g7, zaJ k 3 (mrow1 (u.1 1))), (g8, zaJ k 3 (mrow2 (u.1 1)))] H := hP
      have hD : va_D A [(hm, .inr (7, [.ref p0, .ref c0, .ref n0, .ref b0, .ref e0, .ref f0, .ref l1, .ref l2, .ref l3, .ref l4, .ref l5, .int (u.2.1 11 2), .int (msk (u.2.2.2 1)), .long (u.1 9 0)])), (e0, .inr (4, [.ref g0, .ref q0, .ref e1, .ref e2, .ref e3, .ref e4, .ref e5, .ref e6, .ref e7, .int (u.2.1 11 3), .int (u.2.1 11 4), .int (u.2.1 11 5)])), (g0, .inr (0, [.ref g1, .ref g2, .ref g3, .ref g4, .ref g5])), (g5, zaG k 3 (gr3 g6 g7 g8)), (g6, zaJ k 3 (mrow0 (u.1 1))), (g7, zaJ k 3 (mrow1 (u.1 1))), (g8, zaJ k 3 (mrow2 (u.1 1)))] := hD
      have hP9 := hP.sub (ws' := [(hm, .inr (7, [.ref p0, .ref c0, .ref n0, .ref b0, .ref e0, .ref f0, .ref l1, .ref l2, .ref l3, .ref l4, .ref l5, .int (u.2.1 11 2), .int (msk (u.2.2.2 1)), .long (u.1 9 0)])), (e0, .inr (4, [.ref g0, .ref q0, .ref e1, .ref e2, .ref e3, .ref e4, .ref e5, .ref e6, .ref e7, .int (u.2.1 11 3), .int (u.2.1 11 4), .int (u.2.1 11 5)])), (g0, .inr (0, [.ref g1, .ref g2, .ref g3, .ref g4, .ref g5])), (g5, zaG k 3 (gr3 g6 g7 g8)), (g6, zaJ k 3 (mrow0 (u.1 1))), (g7, zaJ k 3 (mrow1 (u.1 1))), (g8, zaJ k 3 (mrow2 (u.1 1)))]) [0, 1, 2, 3, 4, 5, 6] rfl
      have hD9 := hD.sub (ws' := [(hm, .inr (7, [.ref p0, .ref c0, .ref n0, .ref b0, .ref e0, .ref f0, .ref l1, .ref l2, .ref l3, .ref l4, .ref l5, .int (u.2.1 11 2), .int (msk (u.2.2.2 1)), .long (u.1 9 0)])), (e0, .inr (4, [.ref g0, .ref q0, .ref e1, .ref e2, .ref e3, .ref e4, .ref e5, .ref e6, .ref e7, .int (u.2.1 11 3), .int (u.2.1 11 4), .int (u.2.1 11 5)])), (g0, .inr (0, [.ref g1, .ref g2, .ref g3, .ref g4, .ref g5])), (g5, zaG k 3 (gr3 g6 g7 g8)), (g6, zaJ k 3 (mrow0 (u.1 1))), (g7, zaJ k 3 (mrow1 (u.1 1))), (g8, zaJ k 3 (mrow2 (u.1 1)))]) [0, 1, 2, 3, 4, 5, 6] (by decide) rfl
      exact W.lret (v := navr (mrow1 (u.1 1)) x.toInt64 y.toInt64 z.toInt64) hx hb hr (fun t9 ht9 hW9 => ⟨⟨(navr (mrow1 (u.1 1)) x.toInt64 y.toInt64 z.toInt64), [(hm, .inr (7, [.ref p0, .ref c0, .ref n0, .ref b0, .ref e0, .ref f0, .ref l1, .ref l2, .ref l3, .ref l4, .ref l5, .int (u.2.1 11 2), .int (msk (u.2.2.2 1)), .long (u.1 9 0)])), (e0, .inr (4, [.ref g0, .ref q0, .ref e1, .ref e2, .ref e3, .ref e4, .ref e5, .ref e6, .ref e7, .int (u.2.1 11 3), .int (u.2.1 11 4), .int (u.2.1 11 5)])), (g0, .inr (0, [.ref g1, .ref g2, .ref g3, .ref g4, .ref g5])), (g5, zaG k 3 (gr3 g6 g7 g8)), (g6, zaJ k 3 (mrow0 (u.1 1))), (g7, zaJ k 3 (mrow1 (u.1 1))), (g8, zaJ k 3 (mrow2 (u.1 1)))], rfl, ⟨rfl, rfl⟩, by rw [ht9]; exact hP9, hD9⟩, hS.F ht9⟩) hS.2.2 dX8_toNavigation_37
    · skip
      have c_2 := zb_e c_2
      first | exact absurd (c_2.symm.trans h0) (by decide) | exact absurd c_2 (by decide)
set_option maxHeartbeats 4000000 in
set_option maxRecDepth 100000 in
theorem c_X8_toNav2 (l : Launch) (D : va_G) (k : Nat → ClassId) (sz : Nat) (hm p0 c0 n0 b0 e0 e1 e2 e3 e4 e5 e6 e7 g0 g1 g2 g3 g4 g5 g6 g7 g8 q0 f0 l1 l2 l3 l4 l5 : Nat) (u : zS) (x y z : Int32) (h0 : ((zin x (-268435456) 268435456 && (zin y (-268435456) 268435456 && zin z (-268435456) 268435456))) = true) : Met l yX8_toNavigation wsX8_toNavigation ({ frames := 2, cells := 0, slots := 0, locals := 47 } : Room) (va_Pc [.ref hm, .int x, .int y, .int z, .int 2] (zPre D k [(hm, .inr (7, [.ref p0, .ref c0, .ref n0, .ref b0, .ref e0, .ref f0, .ref l1, .ref l2, .ref l3, .ref l4, .ref l5, .int (u.2.1 11 2), .int (msk (u.2.2.2 1)), .long (u.1 9 0)])), (e0, .inr (4, [.ref g0, .ref q0, .ref e1, .ref e2, .ref e3, .ref e4, .ref e5, .ref e6, .ref e7, .int (u.2.1 11 3), .int (u.2.1 11 4), .int (u.2.1 11 5)])), (g0, .inr (0, [.ref g1, .ref g2, .ref g3, .ref g4, .ref g5])), (g5, zaG k 3 (gr3 g6 g7 g8)), (g6, zaJ k 3 (mrow0 (u.1 1))), (g7, zaJ k 3 (mrow1 (u.1 1))), (g8, zaJ k 3 (mrow2 (u.1 1)))] sz zN)) (zQl D [(hm, .inr (7, [.ref p0, .ref c0, .ref n0, .ref b0, .ref e0, .ref f0, .ref l1, .ref l2, .ref l3, .ref l4, .ref l5, .int (u.2.1 11 2), .int (msk (u.2.2.2 1)), .long (u.1 9 0)])), (e0, .inr (4, [.ref g0, .ref q0, .ref e1, .ref e2, .ref e3, .ref e4, .ref e5, .ref e6, .ref e7, .int (u.2.1 11 3), .int (u.2.1 11 4), .int (u.2.1 11 5)])), (g0, .inr (0, [.ref g1, .ref g2, .ref g3, .ref g4, .ref g5])), (g5, zaG k 3 (gr3 g6 g7 g8)), (g6, zaJ k 3 (mrow0 (u.1 1))), (g7, zaJ k 3 (mrow1 (u.1 1))), (g8, zaJ k 3 (mrow2 (u.1 1)))] sz (navr (mrow2 (u.1 1)) x.toInt64 y.toInt64 z.toInt64) (fun w : va_W => w = [(hm, .inr (7, [.ref p0, .ref c0, .ref n0, .ref b0, .ref e0, .ref f0, .ref l1, .ref l2, .ref l3, .ref l4, .ref l5, .int (u.2.1 11 2), .int (msk (u.2.2.2 1)), .long (u.1 9 0)])), (e0, .inr (4, [.ref g0, .ref q0, .ref e1, .ref e2, .ref e3, .ref e4, .ref e5, .ref e6, .ref e7, .int (u.2.1 11 3), .int (u.2.1 11 4), .int (u.2.1 11 5)])), (g0, .inr (0, [.ref g1, .ref g2, .ref g3, .ref g4, .ref g5])), (g5, zaG k 3 (gr3 g6 g7 g8)), (g6, zaJ k 3 (mrow0 (u.1 1))), (g7, zaJ k 3 (mrow1 (u.1 1))), (g8, zaJ k 3 (mrow2 (u.1 1)))])) 0 0 (va_A [(hm, .inr (7, [.ref p0, .ref c0, .ref n0, .ref b0, .ref e0, .ref f0, .ref l1, .ref l2, .ref l3, .ref l4, .ref l5, .int (u.2.1 11 2), .int (msk (u.2.2.2 1)), .long (u.1 9 0)])), (e0, .inr (4, [.ref g0, .ref q0, .ref e1, .ref e2, .ref e3, .ref e4, .ref e5, .ref e6, .ref e7, .int (u.2.1 11 3), .int (u.2.1 11 4), .int (u.2.1 11 5)])), (g0, .inr (0, [.ref g1, .ref g2, .ref g3, .ref g4, .ref g5])), (g5, zaG k 3 (gr3 g6 g7 g8)), (g6, zaJ k 3 (mrow0 (u.1 1))), (g7, zaJ k 3 (mrow1 (u.1 1))), (g8, zaJ k 3 (mrow2 (u.1 1)))] sz) := by
  refine Met.ofW (cc := cX8_toNavigation) (maxL := 5) (ret := (some .long)) (by decide) rfl ?_
  intro p e s m args below meth c s₁ B hml hv
  obtain ⟨rfl, hsz, hP, hK, hD0, hE⟩ := hv
  have hx := B.exec
  have hb := B.bytes
  have hr := B.returns
  have hts := atoms_spec (ws := wsX8_toNavigation) B.pre
  have hown : s.vm.findClass RX8 = some m.cls := findClass_of_methodNamed B.named
  have hlocks := B.notSynchronized
  subst hsz
  have hD := hD0.self (sz := s.heap.size)
  delta zQl zB
  generalize hAe : va_A [(hm, .inr (7, [.ref p0, .ref c0, .ref n0, .ref b0, .ref e0, .ref f0, .ref l1, .ref l2, .ref l3, .ref l4, .ref l5, .int (u.2.1 11 2), .int (msk (u.2.2.2 1)), .long (u.1 9 0)])), (e0, .inr (4, [.ref g0, .ref q0, .ref e1, .ref e2, .ref e3, .ref e4, .ref e5, .ref e6, .ref e7, .int (u.2.1 11 3), .int (u.2.1 11 4), .int (u.2.1 11 5)])), (g0, .inr (0, [.ref g1, .ref g2, .ref g3, .ref g4, .ref g5])), (g5, zaG k 3 (gr3 g6 g7 g8)), (g6, zaJ k 3 (mrow0 (u.1 1))), (g7, zaJ k 3 (mrow1 (u.1 1))), (g8, zaJ k 3 (mrow2 (u.1 1)))] s.heap.size = A at hD hE ⊢
  have hA : ∀ q : Nat, s.heap.size ≤ q → A q := fun q h => by rw [← hAe]; exact Or.inr h
  have hS : va_S A s.heap s.heap [] := va_S.rf
  have hl := lv_entry [.ref hm, .int x, .int y, .int z, .int 2] (n := 5) (Nat.le_of_ble_eq_true rfl)
  rw [lg_entry_eq]
  generalize (lg_sl [.ref hm, .int x, .int y, .int z, .int 2] ++ List.replicate (5 - (lg_sl [.ref hm, .int x, .int y, .int z, .int 2]).length) Slot.unset).toArray = ls at hl ⊢
  have hl : lv_has ls 5 [(0, .ref hm), (1, .int x), (2, .int y), (3, .int z), (4, .int 2)] := hl
  have hl40 : (Cond.fieldLink RX8 40 "InertialReference" "estimator" "LInertialReference$Estimator;").before #[Value.ref hm, Value.int x, Value.int y, Value.int z, Value.int 2] s = true := zw hts 1 rfl
  have hinX8 : ∀ w ∈ u_ws RX8 TX8 14, w ∈ wsX8_toNavigation := fun w h => List.mem_cons_of_mem _ (List.mem_append_left _ (List.mem_append_left _ (List.mem_append_right _ h)))
  have hl196 : (Cond.fieldLinkNest RX8 196 "InertialReference$Estimator" "attitude" "LInertialReference$Attitude;" "InertialReference").before #[Value.ref hm, Value.int x, Value.int y, Value.int z, Value.int 2] s = true := va_Nw.use rfl (zn_RX8_196 hE)
  have hinX4 : ∀ w ∈ u_ws RX4 TX4 12, w ∈ wsX8_toNavigation := fun w h => List.mem_cons_of_mem _ (List.mem_append_left _ (List.mem_append_right _ h))
  refine lv_iload_n hx hb dX8_toNavigation_0 rfl (lv_at hl 1 rfl) ?_
  refine lv_iload_n hx hb dX8_toNavigation_1 rfl (lv_at hl 2 rfl) ?_
  refine lv_iload_n hx hb dX8_toNavigation_2 rfl (lv_at hl 3 rfl) ?_
  refine z_calli0 (wc := []) (wr := [(hm, .inr (7, [.ref p0, .ref c0, .ref n0, .ref b0, .ref e0, .ref f0, .ref l1, .ref l2, .ref l3, .ref l4, .ref l5, .int (u.2.1 11 2), .int (msk (u.2.2.2 1)), .long (u.1 9 0)])), (e0, .inr (4, [.ref g0, .ref q0, .ref e1, .ref e2, .ref e3, .ref e4, .ref e5, .ref e6, .ref e7, .int (u.2.1 11 3), .int (u.2.1 11 4), .int (u.2.1 11 5)])), (g0, .inr (0, [.ref g1, .ref g2, .ref g3, .ref g4, .ref g5])), (g5, zaG k 3 (gr3 g6 g7 g8)), (g6, zaJ k 3 (mrow0 (u.1 1))), (g7, zaJ k 3 (mrow1 (u.1 1))), (g8, zaJ k 3 (mrow2 (u.1 1)))]) (va_runS (As := [.int x, .int y, .int z]) (rest := []) ⟨hx, hb, hml, hown, hts⟩ (c_X8_isUnitVector l D k s.heap.size x y z) (va_cwS 3 hts gX8_toNavigation_X8_isUnitVector rfl rfl rfl (by decide +kernel) ⟨Nat.le_of_ble_eq_true rfl, Nat.le_of_ble_eq_true rfl⟩) (z_preS (wc := []) hP hD hK [] rfl rfl zb0 zp0) rfl rfl hl.1 rfl (lv_room (Nat.le_of_ble_eq_true rfl)) dX8_toNavigation_3 ⟨Nat.zero_le _, Nat.zero_le _⟩) hP hD hS hA [] [0, 1, 2, 3, 4, 5, 6] rfl rfl rfl (by decide) (fun w H locs hF hP hD hS => ?_)
  subst hF
  have hP : va_P D vwCl [(hm, .inr (7, [.ref p0, .ref c0, .ref n0, .ref b0, .ref e0, .ref f0, .ref l1, .ref l2, .ref l3, .ref l4, .ref l5, .int (u.2.1 11 2), .int (msk (u.2.2.2 1)), .long (u.1 9 0)])), (e0, .inr (4, [.ref g0, .ref q0, .ref e1, .ref e2, .ref e3, .ref e4, .ref e5, .ref e6, .ref e7, .int (u.2.1 11 3), .int (u.2.1 11 4), .int (u.2.1 11 5)])), (g0, .inr (0, [.ref g1, .ref g2, .ref g3, .ref g4, .ref g5])), (g5, zaG k 3 (gr3 g6 g7 g8)), (g6, zaJ k 3 (mrow0 (u.1 1))), (g7, zaJ k 3 (mrow1 (u.1 1))), (g8, zaJ k 3 (mrow2 (u.1 1)))] H := hP
  have hD : va_D A [(hm, .inr (7, [.ref p0, .ref c0, .ref n0, .ref b0, .ref e0, .ref f0, .ref l1, .ref l2, .ref l3, .ref l4, .ref l5, .int (u.2.1 11 2), .int (msk (u.2.2.2 1)), .long (u.1 9 0)])), (e0, .inr (4, [.ref g0, .ref q0, .ref e1, .ref e2, .ref e3, .ref e4, .ref e5, .ref e6, .ref e7, .int (u.2.1 11 3), .int (u.2.1 11 4), .int (u.2.1 11 5)])), (g0, .inr (0, [.ref g1, .ref g2, .ref g3, .ref g4, .ref g5])), (g5, zaG k 3 (gr3 g6 g7 g8)), (g6, zaJ k 3 (mrow0 (u.1 1))), (g7, zaJ k 3 (mrow1 (u.1 1))), (g8, zaJ k 3 (mrow2 (u.1 1)))] := hD
  refine lv_if_eq (tgt := 17) hx hb dX8_toNavigation_6 (by decide) (fun c_1 => ?_) (fun c_1 => ?_)
  · skip
    have c_1 := zb_e c_1
    first | exact absurd (c_1.symm.trans h0) (by decide) | exact absurd c_1 (by decide)
  · skip
    have c_1 := zb_n c_1
    refine lv_iload hx hb dX8_toNavigation_9 (lv_at hl 4 rfl) ?_
    refine z_calli0 (wc := []) (wr := [(hm, .inr (7, [.ref p0, .ref c0, .ref n0, .ref b0, .ref e0, .ref f0, .ref l1, .ref l2, .ref l3, .ref l4, .ref l5, .int (u.2.1 11 2), .int (msk (u.2.2.2 1)), .long (u.1 9 0)])), (e0, .inr (4, [.ref g0, .ref q0, .ref e1, .ref e2, .ref e3, .ref e4, .ref e5, .ref e6, .ref e7, .int (u.2.1 11 3), .int (u.2.1 11 4), .int (u.2.1 11 5)])), (g0, .inr (0, [.ref g1, .ref g2, .ref g3, .ref g4, .ref g5])), (g5, zaG k 3 (gr3 g6 g7 g8)), (g6, zaJ k 3 (mrow0 (u.1 1))), (g7, zaJ k 3 (mrow1 (u.1 1))), (g8, zaJ k 3 (mrow2 (u.1 1)))]) (va_runS (As := [.int 2]) (rest := []) ⟨hx, hb, hml, hown, hts⟩ (c_X5_isAxis l D k H.size 2) (va_cwS 1 hts gX8_toNavigation_X5_isAxis rfl rfl rfl (by decide +kernel) ⟨Nat.le_of_ble_eq_true rfl, Nat.le_of_ble_eq_true rfl⟩) (z_preS (wc := []) hP hD hK [] rfl rfl zb0 zp0) rfl rfl hl.1 rfl (lv_room (Nat.le_of_ble_eq_true rfl)) dX8_toNavigation_11 ⟨Nat.zero_le _, Nat.zero_le _⟩) hP hD hS hA [] [0, 1, 2, 3, 4, 5, 6] rfl rfl rfl (by decide) (fun w H locs hF hP hD hS => ?_)
    subst hF
    have hP : va_P D vwCl [(hm, .inr (7, [.ref p0, .ref c0, .ref n0, .ref b0, .ref e0, .ref f0, .ref l1, .ref l2, .ref l3, .ref l4, .ref l5, .int (u.2.1 11 2), .int (msk (u.2.2.2 1)), .long (u.1 9 0)])), (e0, .inr (4, [.ref g0, .ref q0, .ref e1, .ref e2, .ref e3, .ref e4, .ref e5, .ref e6, .ref e7, .int (u.2.1 11 3), .int (u.2.1 11 4), .int (u.2.1 11 5)])), (g0, .inr (0, [.ref g1, .ref g2, .ref g3, .ref g4, .ref g5])), (g5, zaG k 3 (gr3 g6 g7 g8)), (g6, zaJ k 3 (mrow0 (u.1 1))), (g7, zaJ k 3 (mrow1 (u.1 1))), (g8, zaJ k 3 (mrow2 (u.1 1)))] H := hP
    have hD : va_D A [(hm, .inr (7, [.ref p0, .ref c0, .ref n0, .ref b0, .ref e0, .ref f0, .ref l1, .ref l2, .ref l3, .ref l4, .ref l5, .int (u.2.1 11 2), .int (msk (u.2.2.2 1)), .long (u.1 9 0)])), (e0, .inr (4, [.ref g0, .ref q0, .ref e1, .ref e2, .ref e3, .ref e4, .ref e5, .ref e6, .ref e7, .int (u.2.1 11 3), .int (u.2.1 11 4), .int (u.2.1 11 5)])), (g0, .inr (0, [.ref g1, .ref g2, .ref g3, .ref g4, .ref g5])), (g5, zaG k 3 (gr3 g6 g7 g8)), (g6, zaJ k 3 (mrow0 (u.1 1))), (g7, zaJ k 3 (mrow1 (u.1 1))), (g8, zaJ k 3 (mrow2 (u.1 1)))] := hD
    refine lv_if_ne (tgt := 19) hx hb dX8_toNavigation_14 (by decide) (fun c_2 => ?_) (fun c_2 => ?_)
    · skip
      have c_2 := zb_n c_2
      refine lv_aload_n hx hb dX8_toNavigation_19 rfl (lv_at hl 0 rfl) ?_
      refine va_get (D := D) (ci := 7) (v := .ref e0) (C := RX8) (T := TX8) (N := 14) hx hb hts hinX8 hown hK hP 0 rfl rfl 4 (Nat.le_of_ble_eq_true rfl) hl40 (fun _ h9 => h9) rfl dX8_toNavigation_20 ?_
      refine va_getN (D := D) (ci := 4) (v := .ref g0) (C := RX4) (T := TX4) (N := 12) hx hb hts hinX4 hown hK hP 1 rfl rfl 0 (Nat.le_of_ble_eq_true rfl) hl196 (fun _ h9 => h9) rfl dX8_toNavigation_23 ?_
      refine lv_iload_n hx hb dX8_toNavigation_26 rfl (lv_at hl 1 rfl) ?_
      refine lv_i2l (v := x.toInt64) hx hb dX8_toNavigation_27 rfl ?_
      refine lv_iload_n hx hb dX8_toNavigation_28 rfl (lv_at hl 2 rfl) ?_
      refine lv_i2l (v := y.toInt64) hx hb dX8_toNavigation_29 rfl ?_
      refine lv_iload_n hx hb dX8_toNavigation_30 rfl (lv_at hl 3 rfl) ?_
      refine lv_i2l (v := z.toInt64) hx hb dX8_toNavigation_31 rfl ?_
      refine lv_iload hx hb dX8_toNavigation_32 (lv_at hl 4 rfl) ?_
      refine z_calll0 (wc := [(g0, .inr (0, [.ref g1, .ref g2, .ref g3, .ref g4, .ref g5])), (g5, zaG k 3 (gr3 g6 g7 g8)), (g6, zaJ k 3 (mrow0 (u.1 1))), (g7, zaJ k 3 (mrow1 (u.1 1))), (g8, zaJ k 3 (mrow2 (u.1 1)))]) (wr := [(hm, .inr (7, [.ref p0, .ref c0, .ref n0, .ref b0, .ref e0, .ref f0, .ref l1, .ref l2, .ref l3, .ref l4, .ref l5, .int (u.2.1 11 2), .int (msk (u.2.2.2 1)), .long (u.1 9 0)])), (e0, .inr (4, [.ref g0, .ref q0, .ref e1, .ref e2, .ref e3, .ref e4, .ref e5, .ref e6, .ref e7, .int (u.2.1 11 3), .int (u.2.1 11 4), .int (u.2.1 11 5)]))]) (va_runV (As := [.long x.toInt64, .long y.toInt64, .long z.toInt64, .int 2]) (rest := []) ⟨hx, hb, hml, hown, hts⟩ (c_X0_nav2 l D k H.size g0 g1 g2 g3 g4 g5 g6 g7 g8 (mrow0 (u.1 1)) (mrow1 (u.1 1)) (mrow2 (u.1 1)) x.toInt64 y.toInt64 z.toInt64) (cwV 4 hts gX8_toNavigation_X0_navigationComponent rfl rfl rfl (by decide +kernel) ⟨Nat.le_of_ble_eq_true rfl, Nat.le_of_ble_eq_true rfl⟩) (z_preV (wc := [(g0, .inr (0, [.ref g1, .ref g2, .ref g3, .ref g4, .ref g5])), (g5, zaG k 3 (gr3 g6 g7 g8)), (g6, zaJ k 3 (mrow0 (u.1 1))), (g7, zaJ k 3 (mrow1 (u.1 1))), (g8, zaJ k 3 (mrow2 (u.1 1)))]) 2 0 hP hD hK [2, 3, 4, 5, 6] rfl rfl rfl rfl zb0 zp0) rfl rfl hl.1 rfl (lv_room (Nat.le_of_ble_eq_true rfl)) dX8_toNavigation_34 ⟨Nat.zero_le _, Nat.zero_le _⟩) hP hD hS hA [2, 3, 4, 5, 6] [0, 1] rfl rfl rfl (by decide) (fun w H locs hF hP hD hS => ?_)
      subst hF
      have hP : va_P D vwCl [(hm, .inr (7, [.ref p0, .ref c0, .ref n0, .ref b0, .ref e0, .ref f0, .ref l1, .ref l2, .ref l3, .ref l4, .ref l5, .int (u.2.1 11 2), .int (msk (u.2.2.2 1)), .long (u.1 9 0)])), (e0, .inr (4, [.ref g0, .ref q0, .ref e1, .ref e2, .ref e3, .ref e4, .ref e5, .ref e6, .ref e7, .int (u.2.1 11 3), .int (u.2.1 11 4), .int (u.2.1 11 5)])), (g0, .inr (0, [.ref g1, .ref g2, .ref g3, .ref g4, .ref g5])), (g5, zaG k 3 (gr3 g6 g7 g8)), (g6, zaJ k 3 (mrow0 (u.1 1))), (g7, zaJ k 3 (mrow1 (u.1 1))), (g8, zaJ k 3 (mrow2 (u.1 1)))] H := hP
      have hD : va_D A [(hm, .inr (7, [.ref p0, .ref c0, .ref n0, .ref b0, .ref e0, .ref f0, .ref l1, .ref l2, .ref l3, .ref l4, .ref l5, .int (u.2.1 11 2), .int (msk (u.2.2.2 1)), .long (u.1 9 0)])), (e0, .inr (4, [.ref g0, .ref q0, .ref e1, .ref e2, .ref e3, .ref e4, .ref e5, .ref e6, .ref e7, .int (u.2.1 11 3), .int (u.2.1 11 4), .int (u.2.1 11 5)])), (g0, .inr (0, [.ref g1, .ref g2, .ref g3, .ref g4, .ref g5])), (g5, zaG k 3 (gr3 g6 g7 g8)), (g6, zaJ k 3 (mrow0 (u.1 1))), (g7, zaJ k 3 (mrow1 (u.1 1))), (g8, zaJ k 3 (mrow2 (u.1 1)))] := hD
      have hP9 := hP.sub (ws' := [(hm, .inr (7, [.ref p0, .ref c0, .ref n0, .ref b0, .ref e0, .ref f0, .ref l1, .ref l2, .ref l3, .ref l4, .ref l5, .int (u.2.1 11 2), .int (msk (u.2.2.2 1)), .long (u.1 9 0)])), (e0, .inr (4, [.ref g0, .ref q0, .ref e1, .ref e2, .ref e3, .ref e4, .ref e5, .ref e6, .ref e7, .int (u.2.1 11 3), .int (u.2.1 11 4), .int (u.2.1 11 5)])), (g0, .inr (0, [.ref g1, .ref g2, .ref g3, .ref g4, .ref g5])), (g5, zaG k 3 (gr3 g6 g7 g8)), (g6, zaJ k 3 (mrow0 (u.1 1))), (g7, zaJ k 3 (mrow1 (u.1 1))), (g8, zaJ k 3 (mrow2 (u.1 1)))]) [0, 1, 2, 3, 4, 5, 6] rfl
      have hD9 := hD.sub (ws' := [(hm, .inr (7, [.ref p0, .ref c0, .ref n0, .ref b0, .ref e0, .ref f0, .ref l1, .ref l2, .ref l3, .ref l4, .ref l5, .int (u.2.1 11 2), .int (msk (u.2.2.2 1)), .long (u.1 9 0)])), (e0, .inr (4, [.ref g0, .ref q0, .ref e1, .ref e2, .ref e3, .ref e4, .ref e5, .ref e6, .ref e7, .int (u.2.1 11 3), .int (u.2.1 11 4), .int (u.2.1 11 5)])), (g0, .inr (0, [.ref g1, .ref g2, .ref g3, .ref g4, .ref g5])), (g5, zaG k 3 (gr3 g6 g7 g8)), (g6, zaJ k 3 (mrow0 (u.1 1))), (g7, zaJ k 3 (mrow1 (u.1 1))), (g8, zaJ k 3 (mrow2 (u.1 1)))]) [0, 1, 2, 3, 4, 5, 6] (by decide) rfl
      exact W.lret (v := navr (mrow2 (u.1 1)) x.toInt64 y.toInt64 z.toInt64) hx hb hr (fun t9 ht9 hW9 => ⟨⟨(navr (mrow2 (u.1 1)) x.toInt64 y.toInt64 z.toInt64), [(hm, .inr (7, [.ref p0, .ref c0, .ref n0, .ref b0, .ref e0, .ref f0, .ref l1, .ref l2, .ref l3, .ref l4, .ref l5, .int (u.2.1 11 2), .int (msk (u.2.2.2 1)), .long (u.1 9 0)])), (e0, .inr (4, [.ref g0, .ref q0, .ref e1, .ref e2, .ref e3, .ref e4, .ref e5, .ref e6, .ref e7, .int (u.2.1 11 3), .int (u.2.1 11 4), .int (u.2.1 11 5)])), (g0, .inr (0, [.ref g1, .ref g2, .ref g3, .ref g4, .ref g5])), (g5, zaG k 3 (gr3 g6 g7 g8)), (g6, zaJ k 3 (mrow0 (u.1 1))), (g7, zaJ k 3 (mrow1 (u.1 1))), (g8, zaJ k 3 (mrow2 (u.1 1)))], rfl, ⟨rfl, rfl⟩, by rw [ht9]; exact hP9, hD9⟩, hS.F ht9⟩) hS.2.2 dX8_toNavigation_37
    · skip
      have c_2 := zb_e c_2
      first | exact absurd (c_2.symm.trans h0) (by decide) | exact absurd c_2 (by decide)
set_option maxHeartbeats 4000000 in
set_option maxRecDepth 100000 in
theorem c_X8_toNavigation_no (l : Launch) (D : va_G) (k : Nat → ClassId) (sz : Nat) (hm p0 c0 n0 b0 e0 f0 l1 l2 l3 l4 l5 : Nat) (u : zS) (x y z a : Int32) (hno : (((zin x (-268435456) 268435456 && (zin y (-268435456) 268435456 && zin z (-268435456) 268435456))) && zin a 0 2) = false) : Met l yX8_toNavigation wsX8_toNavigation ({ frames := 2, cells := 0, slots := 0, locals := 45 } : Room) (va_Pc [.ref hm, .int x, .int y, .int z, .int a] (zPre D k [(hm, .inr (7, [.ref p0, .ref c0, .ref n0, .ref b0, .ref e0, .ref f0, .ref l1, .ref l2, .ref l3, .ref l4, .ref l5, .int (u.2.1 11 2), .int (msk (u.2.2.2 1)), .long (u.1 9 0)]))] sz zX0)) (zQl D [(hm, .inr (7, [.ref p0, .ref c0, .ref n0, .ref b0, .ref e0, .ref f0, .ref l1, .ref l2, .ref l3, .ref l4, .ref l5, .int (u.2.1 11 2), .int (msk (u.2.2.2 1)), .long (u.1 9 0)]))] sz 0 (fun w : va_W => w = [(hm, .inr (7, [.ref p0, .ref c0, .ref n0, .ref b0, .ref e0, .ref f0, .ref l1, .ref l2, .ref l3, .ref l4, .ref l5, .int (u.2.1 11 2), .int (msk (u.2.2.2 1)), .long (u.1 9 0)]))])) 0 0 (va_A [(hm, .inr (7, [.ref p0, .ref c0, .ref n0, .ref b0, .ref e0, .ref f0, .ref l1, .ref l2, .ref l3, .ref l4, .ref l5, .int (u.2.1 11 2), .int (msk (u.2.2.2 1)), .long (u.1 9 0)]))] sz) := by
  refine Met.ofW (cc := cX8_toNavigation) (maxL := 5) (ret := (some .long)) (by decide) rfl ?_
  intro p e s m args below meth c s₁ B hml hv
  obtain ⟨rfl, hsz, hP, hK, hD0, hE⟩ := hv
  have hx := B.exec
  have hb := B.bytes
  have hr := B.returns
  have hts := atoms_spec (ws := wsX8_toNavigation) B.pre
  have hown : s.vm.findClass RX8 = some m.cls := findClass_of_methodNamed B.named
  have hlocks := B.notSynchronized
  subst hsz
  have hD := hD0.self (sz := s.heap.size)
  delta zQl zB
  generalize hAe : va_A [(hm, .inr (7, [.ref p0, .ref c0, .ref n0, .ref b0, .ref e0, .ref f0, .ref l1, .ref l2, .ref l3, .ref l4, .ref l5, .int (u.2.1 11 2), .int (msk (u.2.2.2 1)), .long (u.1 9 0)]))] s.heap.size = A at hD hE ⊢
  have hA : ∀ q : Nat, s.heap.size ≤ q → A q := fun q h => by rw [← hAe]; exact Or.inr h
  have hS : va_S A s.heap s.heap [] := va_S.rf
  have hl := lv_entry [.ref hm, .int x, .int y, .int z, .int a] (n := 5) (Nat.le_of_ble_eq_true rfl)
  rw [lg_entry_eq]
  generalize (lg_sl [.ref hm, .int x, .int y, .int z, .int a] ++ List.replicate (5 - (lg_sl [.ref hm, .int x, .int y, .int z, .int a]).length) Slot.unset).toArray = ls at hl ⊢
  have hl : lv_has ls 5 [(0, .ref hm), (1, .int x), (2, .int y), (3, .int z), (4, .int a)] := hl
  refine lv_iload_n hx hb dX8_toNavigation_0 rfl (lv_at hl 1 rfl) ?_
  refine lv_iload_n hx hb dX8_toNavigation_1 rfl (lv_at hl 2 rfl) ?_
  refine lv_iload_n hx hb dX8_toNavigation_2 rfl (lv_at hl 3 rfl) ?_
  refine z_calli0 (wc := []) (wr := [(hm, .inr (7, [.ref p0, .ref c0, .ref n0, .ref b0, .ref e0, .ref f0, .ref l1, .ref l2, .ref l3, .ref l4, .ref l5, .int (u.2.1 11 2), .int (msk (u.2.2.2 1)), .long (u.1 9 0)]))]) (va_runS (As := [.int x, .int y, .int z]) (rest := []) ⟨hx, hb, hml, hown, hts⟩ (c_X8_isUnitVector l D k s.heap.size x y z) (va_cwS 3 hts gX8_toNavigation_X8_isUnitVector rfl rfl rfl (by decide +kernel) ⟨Nat.le_of_ble_eq_true rfl, Nat.le_of_ble_eq_true rfl⟩) (z_preS (wc := []) hP hD hK [] rfl rfl zb0 zp0) rfl rfl hl.1 rfl (lv_room (Nat.le_of_ble_eq_true rfl)) dX8_toNavigation_3 ⟨Nat.zero_le _, Nat.zero_le _⟩) hP hD hS hA [] [0] rfl rfl rfl (by decide) (fun w H locs hF hP hD hS => ?_)
  subst hF
  have hP : va_P D vwCl [(hm, .inr (7, [.ref p0, .ref c0, .ref n0, .ref b0, .ref e0, .ref f0, .ref l1, .ref l2, .ref l3, .ref l4, .ref l5, .int (u.2.1 11 2), .int (msk (u.2.2.2 1)), .long (u.1 9 0)]))] H := hP
  have hD : va_D A [(hm, .inr (7, [.ref p0, .ref c0, .ref n0, .ref b0, .ref e0, .ref f0, .ref l1, .ref l2, .ref l3, .ref l4, .ref l5, .int (u.2.1 11 2), .int (msk (u.2.2.2 1)), .long (u.1 9 0)]))] := hD
  refine lv_if_eq (tgt := 17) hx hb dX8_toNavigation_6 (by decide) (fun c_1 => ?_) (fun c_1 => ?_)
  · skip
    have c_1 := zb_e c_1
    refine lv_lconst (v := 0) hx hb dX8_toNavigation_17 (by decide) ?_
    have hP9 := hP.sub (ws' := [(hm, .inr (7, [.ref p0, .ref c0, .ref n0, .ref b0, .ref e0, .ref f0, .ref l1, .ref l2, .ref l3, .ref l4, .ref l5, .int (u.2.1 11 2), .int (msk (u.2.2.2 1)), .long (u.1 9 0)]))]) [0] rfl
    have hD9 := hD.sub (ws' := [(hm, .inr (7, [.ref p0, .ref c0, .ref n0, .ref b0, .ref e0, .ref f0, .ref l1, .ref l2, .ref l3, .ref l4, .ref l5, .int (u.2.1 11 2), .int (msk (u.2.2.2 1)), .long (u.1 9 0)]))]) [0] (by decide) rfl
    exact W.lret (v := 0) hx hb hr (fun t9 ht9 hW9 => ⟨⟨0, [(hm, .inr (7, [.ref p0, .ref c0, .ref n0, .ref b0, .ref e0, .ref f0, .ref l1, .ref l2, .ref l3, .ref l4, .ref l5, .int (u.2.1 11 2), .int (msk (u.2.2.2 1)), .long (u.1 9 0)]))], rfl, ⟨rfl, rfl⟩, by rw [ht9]; exact hP9, hD9⟩, hS.F ht9⟩) hS.2.2 dX8_toNavigation_18
  · skip
    have c_1 := zb_n c_1
    refine lv_iload hx hb dX8_toNavigation_9 (lv_at hl 4 rfl) ?_
    refine z_calli0 (wc := []) (wr := [(hm, .inr (7, [.ref p0, .ref c0, .ref n0, .ref b0, .ref e0, .ref f0, .ref l1, .ref l2, .ref l3, .ref l4, .ref l5, .int (u.2.1 11 2), .int (msk (u.2.2.2 1)), .long (u.1 9 0)]))]) (va_runS (As := [.int a]) (rest := []) ⟨hx, hb, hml, hown, hts⟩ (c_X5_isAxis l D k H.size a) (va_cwS 1 hts gX8_toNavigation_X5_isAxis rfl rfl rfl (by decide +kernel) ⟨Nat.le_of_ble_eq_true rfl, Nat.le_of_ble_eq_true rfl⟩) (z_preS (wc := []) hP hD hK [] rfl rfl zb0 zp0) rfl rfl hl.1 rfl (lv_room (Nat.le_of_ble_eq_true rfl)) dX8_toNavigation_11 ⟨Nat.zero_le _, Nat.zero_le _⟩) hP hD hS hA [] [0] rfl rfl rfl (by decide) (fun w H locs hF hP hD hS => ?_)
    subst hF
    have hP : va_P D vwCl [(hm, .inr (7, [.ref p0, .ref c0, .ref n0, .ref b0, .ref e0, .ref f0, .ref l1, .ref l2, .ref l3, .ref l4, .ref l5, .int (u.2.1 11 2), .int (msk (u.2.2.2 1)), .long (u.1 9 0)]))] H := hP
    have hD : va_D A [(hm, .inr (7, [.ref p0, .ref c0, .ref n0, .ref b0, .ref e0, .ref f0, .ref l1, .ref l2, .ref l3, .ref l4, .ref l5, .int (u.2.1 11 2), .int (msk (u.2.2.2 1)), .long (u.1 9 0)]))] := hD
    refine lv_if_ne (tgt := 19) hx hb dX8_toNavigation_14 (by decide) (fun c_2 => ?_) (fun c_2 => ?_)
    · skip
      have c_2 := zb_n c_2
      rw [c_1, c_2] at hno; exact absurd hno (by decide)
    · skip
      have c_2 := zb_e c_2
      refine lv_lconst (v := 0) hx hb dX8_toNavigation_17 (by decide) ?_
      have hP9 := hP.sub (ws' := [(hm, .inr (7, [.ref p0, .ref c0, .ref n0, .ref b0, .ref e0, .ref f0, .ref l1, .ref l2, .ref l3, .ref l4, .ref l5, .int (u.2.1 11 2), .int (msk (u.2.2.2 1)), .long (u.1 9 0)]))]) [0] rfl
      have hD9 := hD.sub (ws' := [(hm, .inr (7, [.ref p0, .ref c0, .ref n0, .ref b0, .ref e0, .ref f0, .ref l1, .ref l2, .ref l3, .ref l4, .ref l5, .int (u.2.1 11 2), .int (msk (u.2.2.2 1)), .long (u.1 9 0)]))]) [0] (by decide) rfl
      exact W.lret (v := 0) hx hb hr (fun t9 ht9 hW9 => ⟨⟨0, [(hm, .inr (7, [.ref p0, .ref c0, .ref n0, .ref b0, .ref e0, .ref f0, .ref l1, .ref l2, .ref l3, .ref l4, .ref l5, .int (u.2.1 11 2), .int (msk (u.2.2.2 1)), .long (u.1 9 0)]))], rfl, ⟨rfl, rfl⟩, by rw [ht9]; exact hP9, hD9⟩, hS.F ht9⟩) hS.2.2 dX8_toNavigation_18
set_option maxHeartbeats 4000000 in
set_option maxRecDepth 100000 in
theorem c_X8_toBody_ok (l : Launch) (D : va_G) (k : Nat → ClassId) (sz : Nat) (hm p0 c0 n0 b0 e0 e1 e2 e3 e4 e5 e6 e7 g0 g1 g2 g3 g4 g5 g6 g7 g8 q0 f0 l1 l2 l3 l4 l5 : Nat) (u : zS) (x y z : Int32) (i : Nat) (hi : i < 3) (h0 : ((zin x (-268435456) 268435456 && (zin y (-268435456) 268435456 && zin z (-268435456) 268435456))) = true) (h1 : zin (nI i) 0 2 = true) : Met l yX8_toBody wsX8_toBody ({ frames := 2, cells := 0, slots := 0, locals := 47 } : Room) (va_Pc [.ref hm, .int x, .int y, .int z, .int (nI i)] (zPre D k [(hm, .inr (7, [.ref p0, .ref c0, .ref n0, .ref b0, .ref e0, .ref f0, .ref l1, .ref l2, .ref l3, .ref l4, .ref l5, .int (u.2.1 11 2), .int (msk (u.2.2.2 1)), .long (u.1 9 0)])), (e0, .inr (4, [.ref g0, .ref q0, .ref e1, .ref e2, .ref e3, .ref e4, .ref e5, .ref e6, .ref e7, .int (u.2.1 11 3), .int (u.2.1 11 4), .int (u.2.1 11 5)])), (g0, .inr (0, [.ref g1, .ref g2, .ref g3, .ref g4, .ref g5])), (g5, zaG k 3 (gr3 g6 g7 g8)), (g6, zaJ k 3 (mrow0 (u.1 1))), (g7, zaJ k 3 (mrow1 (u.1 1))), (g8, zaJ k 3 (mrow2 (u.1 1)))] sz zN)) (zQl D [(hm, .inr (7, [.ref p0, .ref c0, .ref n0, .ref b0, .ref e0, .ref f0, .ref l1, .ref l2, .ref l3, .ref l4, .ref l5, .int (u.2.1 11 2), .int (msk (u.2.2.2 1)), .long (u.1 9 0)])), (e0, .inr (4, [.ref g0, .ref q0, .ref e1, .ref e2, .ref e3, .ref e4, .ref e5, .ref e6, .ref e7, .int (u.2.1 11 3), .int (u.2.1 11 4), .int (u.2.1 11 5)])), (g0, .inr (0, [.ref g1, .ref g2, .ref g3, .ref g4, .ref g5])), (g5, zaG k 3 (gr3 g6 g7 g8)), (g6, zaJ k 3 (mrow0 (u.1 1))), (g7, zaJ k 3 (mrow1 (u.1 1))), (g8, zaJ k 3 (mrow2 (u.1 1)))] sz (bodyq (u.1 1) x.toInt64 y.toInt64 z.toInt64 i) (fun w : va_W => w = [(hm, .inr (7, [.ref p0, .ref c0, .ref n0, .ref b0, .ref e0, .ref f0, .ref l1, .ref l2, .ref l3, .ref l4, .ref l5, .int (u.2.1 11 2), .int (msk (u.2.2.2 1)), .long (u.1 9 0)])), (e0, .inr (4, [.ref g0, .ref q0, .ref e1, .ref e2, .ref e3, .ref e4, .ref e5, .ref e6, .ref e7, .int (u.2.1 11 3), .int (u.2.1 11 4), .int (u.2.1 11 5)])), (g0, .inr (0, [.ref g1, .ref g2, .ref g3, .ref g4, .ref g5])), (g5, zaG k 3 (gr3 g6 g7 g8)), (g6, zaJ k 3 (mrow0 (u.1 1))), (g7, zaJ k 3 (mrow1 (u.1 1))), (g8, zaJ k 3 (mrow2 (u.1 1)))])) 0 0 (va_A [(hm, .inr (7, [.ref p0, .ref c0, .ref n0, .ref b0, .ref e0, .ref f0, .ref l1, .ref l2, .ref l3, .ref l4, .ref l5, .int (u.2.1 11 2), .int (msk (u.2.2.2 1)), .long (u.1 9 0)])), (e0, .inr (4, [.ref g0, .ref q0, .ref e1, .ref e2, .ref e3, .ref e4, .ref e5, .ref e6, .ref e7, .int (u.2.1 11 3), .int (u.2.1 11 4), .int (u.2.1 11 5)])), (g0, .inr (0, [.ref g1, .ref g2, .ref g3, .ref g4, .ref g5])), (g5, zaG k 3 (gr3 g6 g7 g8)), (g6, zaJ k 3 (mrow0 (u.1 1))), (g7, zaJ k 3 (mrow1 (u.1 1))), (g8, zaJ k 3 (mrow2 (u.1 1)))] sz) := by
  refine Met.ofW (cc := cX8_toBody) (maxL := 5) (ret := (some .long)) (by decide) rfl ?_
  intro p e s m args below meth c s₁ B hml hv
  obtain ⟨rfl, hsz, hP, hK, hD0, hE⟩ := hv
  have hx := B.exec
  have hb := B.bytes
  have hr := B.returns
  have hts := atoms_spec (ws := wsX8_toBody) B.pre
  have hown : s.vm.findClass RX8 = some m.cls := findClass_of_methodNamed B.named
  have hlocks := B.notSynchronized
  subst hsz
  have hD := hD0.self (sz := s.heap.size)
  delta zQl zB
  generalize hAe : va_A [(hm, .inr (7, [.ref p0, .ref c0, .ref n0, .ref b0, .ref e0, .ref f0, .ref l1, .ref l2, .ref l3, .ref l4, .ref l5, .int (u.2.1 11 2), .int (msk (u.2.2.2 1)), .long (u.1 9 0)])), (e0, .inr (4, [.ref g0, .ref q0, .ref e1, .ref e2, .ref e3, .ref e4, .ref e5, .ref e6, .ref e7, .int (u.2.1 11 3), .int (u.2.1 11 4), .int (u.2.1 11 5)])), (g0, .inr (0, [.ref g1, .ref g2, .ref g3, .ref g4, .ref g5])), (g5, zaG k 3 (gr3 g6 g7 g8)), (g6, zaJ k 3 (mrow0 (u.1 1))), (g7, zaJ k 3 (mrow1 (u.1 1))), (g8, zaJ k 3 (mrow2 (u.1 1)))] s.heap.size = A at hD hE ⊢
  have hA : ∀ q : Nat, s.heap.size ≤ q → A q := fun q h => by rw [← hAe]; exact Or.inr h
  have hS : va_S A s.heap s.heap [] := va_S.rf
  have hl := lv_entry [.ref hm, .int x, .int y, .int z, .int (nI i)] (n := 5) (Nat.le_of_ble_eq_true rfl)
  rw [lg_entry_eq]
  generalize (lg_sl [.ref hm, .int x, .int y, .int z, .int (nI i)] ++ List.replicate (5 - (lg_sl [.ref hm, .int x, .int y, .int z, .int (nI i)]).length) Slot.unset).toArray = ls at hl ⊢
  have hl : lv_has ls 5 [(0, .ref hm), (1, .int x), (2, .int y), (3, .int z), (4, .int (nI i))] := hl
  have hl40 : (Cond.fieldLink RX8 40 "InertialReference" "estimator" "LInertialReference$Estimator;").before #[Value.ref hm, Value.int x, Value.int y, Value.int z, Value.int (nI i)] s = true := zw hts 1 rfl
  have hinX8 : ∀ w ∈ u_ws RX8 TX8 14, w ∈ wsX8_toBody := fun w h => List.mem_cons_of_mem _ (List.mem_append_left _ (List.mem_append_left _ (List.mem_append_right _ h)))
  have hl196 : (Cond.fieldLinkNest RX8 196 "InertialReference$Estimator" "attitude" "LInertialReference$Attitude;" "InertialReference").before #[Value.ref hm, Value.int x, Value.int y, Value.int z, Value.int (nI i)] s = true := va_Nw.use rfl (zn_RX8_196 hE)
  have hinX4 : ∀ w ∈ u_ws RX4 TX4 12, w ∈ wsX8_toBody := fun w h => List.mem_cons_of_mem _ (List.mem_append_left _ (List.mem_append_right _ h))
  refine lv_iload_n hx hb dX8_toBody_0 rfl (lv_at hl 1 rfl) ?_
  refine lv_iload_n hx hb dX8_toBody_1 rfl (lv_at hl 2 rfl) ?_
  refine lv_iload_n hx hb dX8_toBody_2 rfl (lv_at hl 3 rfl) ?_
  refine z_calli0 (wc := []) (wr := [(hm, .inr (7, [.ref p0, .ref c0, .ref n0, .ref b0, .ref e0, .ref f0, .ref l1, .ref l2, .ref l3, .ref l4, .ref l5, .int (u.2.1 11 2), .int (msk (u.2.2.2 1)), .long (u.1 9 0)])), (e0, .inr (4, [.ref g0, .ref q0, .ref e1, .ref e2, .ref e3, .ref e4, .ref e5, .ref e6, .ref e7, .int (u.2.1 11 3), .int (u.2.1 11 4), .int (u.2.1 11 5)])), (g0, .inr (0, [.ref g1, .ref g2, .ref g3, .ref g4, .ref g5])), (g5, zaG k 3 (gr3 g6 g7 g8)), (g6, zaJ k 3 (mrow0 (u.1 1))), (g7, zaJ k 3 (mrow1 (u.1 1))), (g8, zaJ k 3 (mrow2 (u.1 1)))]) (va_runS (As := [.int x, .int y, .int z]) (rest := []) ⟨hx, hb, hml, hown, hts⟩ (c_X8_isUnitVector l D k s.heap.size x y z) (va_cwS 3 hts gX8_toBody_X8_isUnitVector rfl rfl rfl (by decide +kernel) ⟨Nat.le_of_ble_eq_true rfl, Nat.le_of_ble_eq_true rfl⟩) (z_preS (wc := []) hP hD hK [] rfl rfl zb0 zp0) rfl rfl hl.1 rfl (lv_room (Nat.le_of_ble_eq_true rfl)) dX8_toBody_3 ⟨Nat.zero_le _, Nat.zero_le _⟩) hP hD hS hA [] [0, 1, 2, 3, 4, 5, 6] rfl rfl rfl (by decide) (fun w H locs hF hP hD hS => ?_)
  subst hF
  have hP : va_P D vwCl [(hm, .inr (7, [.ref p0, .ref c0, .ref n0, .ref b0, .ref e0, .ref f0, .ref l1, .ref l2, .ref l3, .ref l4, .ref l5, .int (u.2.1 11 2), .int (msk (u.2.2.2 1)), .long (u.1 9 0)])), (e0, .inr (4, [.ref g0, .ref q0, .ref e1, .ref e2, .ref e3, .ref e4, .ref e5, .ref e6, .ref e7, .int (u.2.1 11 3), .int (u.2.1 11 4), .int (u.2.1 11 5)])), (g0, .inr (0, [.ref g1, .ref g2, .ref g3, .ref g4, .ref g5])), (g5, zaG k 3 (gr3 g6 g7 g8)), (g6, zaJ k 3 (mrow0 (u.1 1))), (g7, zaJ k 3 (mrow1 (u.1 1))), (g8, zaJ k 3 (mrow2 (u.1 1)))] H := hP
  have hD : va_D A [(hm, .inr (7, [.ref p0, .ref c0, .ref n0, .ref b0, .ref e0, .ref f0, .ref l1, .ref l2, .ref l3, .ref l4, .ref l5, .int (u.2.1 11 2), .int (msk (u.2.2.2 1)), .long (u.1 9 0)])), (e0, .inr (4, [.ref g0, .ref q0, .ref e1, .ref e2, .ref e3, .ref e4, .ref e5, .ref e6, .ref e7, .int (u.2.1 11 3), .int (u.2.1 11 4), .int (u.2.1 11 5)])), (g0, .inr (0, [.ref g1, .ref g2, .ref g3, .ref g4, .ref g5])), (g5, zaG k 3 (gr3 g6 g7 g8)), (g6, zaJ k 3 (mrow0 (u.1 1))), (g7, zaJ k 3 (mrow1 (u.1 1))), (g8, zaJ k 3 (mrow2 (u.1 1)))] := hD
  refine lv_if_eq (tgt := 17) hx hb dX8_toBody_6 (by decide) (fun c_1 => ?_) (fun c_1 => ?_)
  · skip
    have c_1 := zb_e c_1
    first | exact absurd (c_1.symm.trans h0) (by decide) | exact absurd (c_1.symm.trans h1) (by decide)
  · skip
    have c_1 := zb_n c_1
    refine lv_iload hx hb dX8_toBody_9 (lv_at hl 4 rfl) ?_
    refine z_calli0 (wc := []) (wr := [(hm, .inr (7, [.ref p0, .ref c0, .ref n0, .ref b0, .ref e0, .ref f0, .ref l1, .ref l2, .ref l3, .ref l4, .ref l5, .int (u.2.1 11 2), .int (msk (u.2.2.2 1)), .long (u.1 9 0)])), (e0, .inr (4, [.ref g0, .ref q0, .ref e1, .ref e2, .ref e3, .ref e4, .ref e5, .ref e6, .ref e7, .int (u.2.1 11 3), .int (u.2.1 11 4), .int (u.2.1 11 5)])), (g0, .inr (0, [.ref g1, .ref g2, .ref g3, .ref g4, .ref g5])), (g5, zaG k 3 (gr3 g6 g7 g8)), (g6, zaJ k 3 (mrow0 (u.1 1))), (g7, zaJ k 3 (mrow1 (u.1 1))), (g8, zaJ k 3 (mrow2 (u.1 1)))]) (va_runS (As := [.int (nI i)]) (rest := []) ⟨hx, hb, hml, hown, hts⟩ (c_X5_isAxis l D k H.size (nI i)) (va_cwS 1 hts gX8_toBody_X5_isAxis rfl rfl rfl (by decide +kernel) ⟨Nat.le_of_ble_eq_true rfl, Nat.le_of_ble_eq_true rfl⟩) (z_preS (wc := []) hP hD hK [] rfl rfl zb0 zp0) rfl rfl hl.1 rfl (lv_room (Nat.le_of_ble_eq_true rfl)) dX8_toBody_11 ⟨Nat.zero_le _, Nat.zero_le _⟩) hP hD hS hA [] [0, 1, 2, 3, 4, 5, 6] rfl rfl rfl (by decide) (fun w H locs hF hP hD hS => ?_)
    subst hF
    have hP : va_P D vwCl [(hm, .inr (7, [.ref p0, .ref c0, .ref n0, .ref b0, .ref e0, .ref f0, .ref l1, .ref l2, .ref l3, .ref l4, .ref l5, .int (u.2.1 11 2), .int (msk (u.2.2.2 1)), .long (u.1 9 0)])), (e0, .inr (4, [.ref g0, .ref q0, .ref e1, .ref e2, .ref e3, .ref e4, .ref e5, .ref e6, .ref e7, .int (u.2.1 11 3), .int (u.2.1 11 4), .int (u.2.1 11 5)])), (g0, .inr (0, [.ref g1, .ref g2, .ref g3, .ref g4, .ref g5])), (g5, zaG k 3 (gr3 g6 g7 g8)), (g6, zaJ k 3 (mrow0 (u.1 1))), (g7, zaJ k 3 (mrow1 (u.1 1))), (g8, zaJ k 3 (mrow2 (u.1 1)))] H := hP
    have hD : va_D A [(hm, .inr (7, [.ref p0, .ref c0, .ref n0, .ref b0, .ref e0, .ref f0, .ref l1, .ref l2, .ref l3, .ref l4, .ref l5, .int (u.2.1 11 2), .int (msk (u.2.2.2 1)), .long (u.1 9 0)])), (e0, .inr (4, [.ref g0, .ref q0, .ref e1, .ref e2, .ref e3, .ref e4, .ref e5, .ref e6, .ref e7, .int (u.2.1 11 3), .int (u.2.1 11 4), .int (u.2.1 11 5)])), (g0, .inr (0, [.ref g1, .ref g2, .ref g3, .ref g4, .ref g5])), (g5, zaG k 3 (gr3 g6 g7 g8)), (g6, zaJ k 3 (mrow0 (u.1 1))), (g7, zaJ k 3 (mrow1 (u.1 1))), (g8, zaJ k 3 (mrow2 (u.1 1)))] := hD
    refine lv_if_ne (tgt := 19) hx hb dX8_toBody_14 (by decide) (fun c_2 => ?_) (fun c_2 => ?_)
    · skip
      have c_2 := zb_n c_2
      refine lv_aload_n hx hb dX8_toBody_19 rfl (lv_at hl 0 rfl) ?_
      refine va_get (D := D) (ci := 7) (v := .ref e0) (C := RX8) (T := TX8) (N := 14) hx hb hts hinX8 hown hK hP 0 rfl rfl 4 (Nat.le_of_ble_eq_true rfl) hl40 (fun _ h9 => h9) rfl dX8_toBody_20 ?_
      refine va_getN (D := D) (ci := 4) (v := .ref g0) (C := RX4) (T := TX4) (N := 12) hx hb hts hinX4 hown hK hP 1 rfl rfl 0 (Nat.le_of_ble_eq_true rfl) hl196 (fun _ h9 => h9) rfl dX8_toBody_23 ?_
      refine lv_iload_n hx hb dX8_toBody_26 rfl (lv_at hl 1 rfl) ?_
      refine lv_i2l (v := x.toInt64) hx hb dX8_toBody_27 rfl ?_
      refine lv_iload_n hx hb dX8_toBody_28 rfl (lv_at hl 2 rfl) ?_
      refine lv_i2l (v := y.toInt64) hx hb dX8_toBody_29 rfl ?_
      refine lv_iload_n hx hb dX8_toBody_30 rfl (lv_at hl 3 rfl) ?_
      refine lv_i2l (v := z.toInt64) hx hb dX8_toBody_31 rfl ?_
      refine lv_iload hx hb dX8_toBody_32 (lv_at hl 4 rfl) ?_
      refine z_calll0 (wc := [(g0, .inr (0, [.ref g1, .ref g2, .ref g3, .ref g4, .ref g5])), (g5, zaG k 3 (gr3 g6 g7 g8)), (g6, zaJ k 3 (mrow0 (u.1 1))), (g7, zaJ k 3 (mrow1 (u.1 1))), (g8, zaJ k 3 (mrow2 (u.1 1)))]) (wr := [(hm, .inr (7, [.ref p0, .ref c0, .ref n0, .ref b0, .ref e0, .ref f0, .ref l1, .ref l2, .ref l3, .ref l4, .ref l5, .int (u.2.1 11 2), .int (msk (u.2.2.2 1)), .long (u.1 9 0)])), (e0, .inr (4, [.ref g0, .ref q0, .ref e1, .ref e2, .ref e3, .ref e4, .ref e5, .ref e6, .ref e7, .int (u.2.1 11 3), .int (u.2.1 11 4), .int (u.2.1 11 5)]))]) (va_runV (As := [.long x.toInt64, .long y.toInt64, .long z.toInt64, .int (nI i)]) (rest := []) ⟨hx, hb, hml, hown, hts⟩ (c_X0_bodyComponent l D k H.size g0 g1 g2 g3 g4 g5 g6 g7 g8 (mrow0 (u.1 1)) (mrow1 (u.1 1)) (mrow2 (u.1 1)) x.toInt64 y.toInt64 z.toInt64 i hi) (cwV 4 hts gX8_toBody_X0_bodyComponent rfl rfl rfl (by decide +kernel) ⟨Nat.le_of_ble_eq_true rfl, Nat.le_of_ble_eq_true rfl⟩) (z_preV (wc := [(g0, .inr (0, [.ref g1, .ref g2, .ref g3, .ref g4, .ref g5])), (g5, zaG k 3 (gr3 g6 g7 g8)), (g6, zaJ k 3 (mrow0 (u.1 1))), (g7, zaJ k 3 (mrow1 (u.1 1))), (g8, zaJ k 3 (mrow2 (u.1 1)))]) 2 0 hP hD hK [2, 3, 4, 5, 6] rfl rfl rfl rfl zb0 zp0) rfl rfl hl.1 rfl (lv_room (Nat.le_of_ble_eq_true rfl)) dX8_toBody_34 ⟨Nat.zero_le _, Nat.zero_le _⟩) hP hD hS hA [2, 3, 4, 5, 6] [0, 1] rfl rfl rfl (by decide) (fun w H locs hF hP hD hS => ?_)
      subst hF
      have hP : va_P D vwCl [(hm, .inr (7, [.ref p0, .ref c0, .ref n0, .ref b0, .ref e0, .ref f0, .ref l1, .ref l2, .ref l3, .ref l4, .ref l5, .int (u.2.1 11 2), .int (msk (u.2.2.2 1)), .long (u.1 9 0)])), (e0, .inr (4, [.ref g0, .ref q0, .ref e1, .ref e2, .ref e3, .ref e4, .ref e5, .ref e6, .ref e7, .int (u.2.1 11 3), .int (u.2.1 11 4), .int (u.2.1 11 5)])), (g0, .inr (0, [.ref g1, .ref g2, .ref g3, .ref g4, .ref g5])), (g5, zaG k 3 (gr3 g6 g7 g8)), (g6, zaJ k 3 (mrow0 (u.1 1))), (g7, zaJ k 3 (mrow1 (u.1 1))), (g8, zaJ k 3 (mrow2 (u.1 1)))] H := hP
      have hD : va_D A [(hm, .inr (7, [.ref p0, .ref c0, .ref n0, .ref b0, .ref e0, .ref f0, .ref l1, .ref l2, .ref l3, .ref l4, .ref l5, .int (u.2.1 11 2), .int (msk (u.2.2.2 1)), .long (u.1 9 0)])), (e0, .inr (4, [.ref g0, .ref q0, .ref e1, .ref e2, .ref e3, .ref e4, .ref e5, .ref e6, .ref e7, .int (u.2.1 11 3), .int (u.2.1 11 4), .int (u.2.1 11 5)])), (g0, .inr (0, [.ref g1, .ref g2, .ref g3, .ref g4, .ref g5])), (g5, zaG k 3 (gr3 g6 g7 g8)), (g6, zaJ k 3 (mrow0 (u.1 1))), (g7, zaJ k 3 (mrow1 (u.1 1))), (g8, zaJ k 3 (mrow2 (u.1 1)))] := hD
      have hP9 := hP.sub (ws' := [(hm, .inr (7, [.ref p0, .ref c0, .ref n0, .ref b0, .ref e0, .ref f0, .ref l1, .ref l2, .ref l3, .ref l4, .ref l5, .int (u.2.1 11 2), .int (msk (u.2.2.2 1)), .long (u.1 9 0)])), (e0, .inr (4, [.ref g0, .ref q0, .ref e1, .ref e2, .ref e3, .ref e4, .ref e5, .ref e6, .ref e7, .int (u.2.1 11 3), .int (u.2.1 11 4), .int (u.2.1 11 5)])), (g0, .inr (0, [.ref g1, .ref g2, .ref g3, .ref g4, .ref g5])), (g5, zaG k 3 (gr3 g6 g7 g8)), (g6, zaJ k 3 (mrow0 (u.1 1))), (g7, zaJ k 3 (mrow1 (u.1 1))), (g8, zaJ k 3 (mrow2 (u.1 1)))]) [0, 1, 2, 3, 4, 5, 6] rfl
      have hD9 := hD.sub (ws' := [(hm, .inr (7, [.ref p0, .ref c0, .ref n0, .ref b0, .ref e0, .ref f0, .ref l1, .ref l2, .ref l3, .ref l4, .ref l5, .int (u.2.1 11 2), .int (msk (u.2.2.2 1)), .long (u.1 9 0)])), (e0, .inr (4, [.ref g0, .ref q0, .ref e1, .ref e2, .ref e3, .ref e4, .ref e5, .ref e6, .ref e7, .int (u.2.1 11 3), .int (u.2.1 11 4), .int (u.2.1 11 5)])), (g0, .inr (0, [.ref g1, .ref g2, .ref g3, .ref g4, .ref g5])), (g5, zaG k 3 (gr3 g6 g7 g8)), (g6, zaJ k 3 (mrow0 (u.1 1))), (g7, zaJ k 3 (mrow1 (u.1 1))), (g8, zaJ k 3 (mrow2 (u.1 1)))]) [0, 1, 2, 3, 4, 5, 6] (by decide) rfl
      exact W.lret (v := bodyr (mrow0 (u.1 1)) (mrow1 (u.1 1)) (mrow2 (u.1 1)) x.toInt64 y.toInt64 z.toInt64 i) hx hb hr (fun t9 ht9 hW9 => ⟨⟨(bodyr (mrow0 (u.1 1)) (mrow1 (u.1 1)) (mrow2 (u.1 1)) x.toInt64 y.toInt64 z.toInt64 i), [(hm, .inr (7, [.ref p0, .ref c0, .ref n0, .ref b0, .ref e0, .ref f0, .ref l1, .ref l2, .ref l3, .ref l4, .ref l5, .int (u.2.1 11 2), .int (msk (u.2.2.2 1)), .long (u.1 9 0)])), (e0, .inr (4, [.ref g0, .ref q0, .ref e1, .ref e2, .ref e3, .ref e4, .ref e5, .ref e6, .ref e7, .int (u.2.1 11 3), .int (u.2.1 11 4), .int (u.2.1 11 5)])), (g0, .inr (0, [.ref g1, .ref g2, .ref g3, .ref g4, .ref g5])), (g5, zaG k 3 (gr3 g6 g7 g8)), (g6, zaJ k 3 (mrow0 (u.1 1))), (g7, zaJ k 3 (mrow1 (u.1 1))), (g8, zaJ k 3 (mrow2 (u.1 1)))], rfl, ⟨by rfl, rfl⟩, by rw [ht9]; exact hP9, hD9⟩, hS.F ht9⟩) hS.2.2 dX8_toBody_37
    · skip
      have c_2 := zb_e c_2
      first | exact absurd (c_2.symm.trans h0) (by decide) | exact absurd (c_2.symm.trans h1) (by decide)
set_option maxHeartbeats 4000000 in
set_option maxRecDepth 100000 in
theorem c_X8_toBody_no (l : Launch) (D : va_G) (k : Nat → ClassId) (sz : Nat) (hm p0 c0 n0 b0 e0 f0 l1 l2 l3 l4 l5 : Nat) (u : zS) (x y z a : Int32) (hno : (((zin x (-268435456) 268435456 && (zin y (-268435456) 268435456 && zin z (-268435456) 268435456))) && zin a 0 2) = false) : Met l yX8_toBody wsX8_toBody ({ frames := 2, cells := 0, slots := 0, locals := 45 } : Room) (va_Pc [.ref hm, .int x, .int y, .int z, .int a] (zPre D k [(hm, .inr (7, [.ref p0, .ref c0, .ref n0, .ref b0, .ref e0, .ref f0, .ref l1, .ref l2, .ref l3, .ref l4, .ref l5, .int (u.2.1 11 2), .int (msk (u.2.2.2 1)), .long (u.1 9 0)]))] sz zX0)) (zQl D [(hm, .inr (7, [.ref p0, .ref c0, .ref n0, .ref b0, .ref e0, .ref f0, .ref l1, .ref l2, .ref l3, .ref l4, .ref l5, .int (u.2.1 11 2), .int (msk (u.2.2.2 1)), .long (u.1 9 0)]))] sz 0 (fun w : va_W => w = [(hm, .inr (7, [.ref p0, .ref c0, .ref n0, .ref b0, .ref e0, .ref f0, .ref l1, .ref l2, .ref l3, .ref l4, .ref l5, .int (u.2.1 11 2), .int (msk (u.2.2.2 1)), .long (u.1 9 0)]))])) 0 0 (va_A [(hm, .inr (7, [.ref p0, .ref c0, .ref n0, .ref b0, .ref e0, .ref f0, .ref l1, .ref l2, .ref l3, .ref l4, .ref l5, .int (u.2.1 11 2), .int (msk (u.2.2.2 1)), .long (u.1 9 0)]))] sz) := by
  refine Met.ofW (cc := cX8_toBody) (maxL := 5) (ret := (some .long)) (by decide) rfl ?_
  intro p e s m args below meth c s₁ B hml hv
  obtain ⟨rfl, hsz, hP, hK, hD0, hE⟩ := hv
  have hx := B.exec
  have hb := B.bytes
  have hr := B.returns
  have hts := atoms_spec (ws := wsX8_toBody) B.pre
  have hown : s.vm.findClass RX8 = some m.cls := findClass_of_methodNamed B.named
  have hlocks := B.notSynchronized
  subst hsz
  have hD := hD0.self (sz := s.heap.size)
  delta zQl zB
  generalize hAe : va_A [(hm, .inr (7, [.ref p0, .ref c0, .ref n0, .ref b0, .ref e0, .ref f0, .ref l1, .ref l2, .ref l3, .ref l4, .ref l5, .int (u.2.1 11 2), .int (msk (u.2.2.2 1)), .long (u.1 9 0)]))] s.heap.size = A at hD hE ⊢
  have hA : ∀ q : Nat, s.heap.size ≤ q → A q := fun q h => by rw [← hAe]; exact Or.inr h
  have hS : va_S A s.heap s.heap [] := va_S.rf
  have hl := lv_entry [.ref hm, .int x, .int y, .int z, .int a] (n := 5) (Nat.le_of_ble_eq_true rfl)
  rw [lg_entry_eq]
  generalize (lg_sl [.ref hm, .int x, .int y, .int z, .int a] ++ List.replicate (5 - (lg_sl [.ref hm, .int x, .int y, .int z, .int a]).length) Slot.unset).toArray = ls at hl ⊢
  have hl : lv_has ls 5 [(0, .ref hm), (1, .int x), (2, .int y), (3, .int z), (4, .int a)] := hl
  refine lv_iload_n hx hb dX8_toBody_0 rfl (lv_at hl 1 rfl) ?_
  refine lv_iload_n hx hb dX8_toBody_1 rfl (lv_at hl 2 rfl) ?_
  refine lv_iload_n hx hb dX8_toBody_2 rfl (lv_at hl 3 rfl) ?_
  refine z_calli0 (wc := []) (wr := [(hm, .inr (7, [.ref p0, .ref c0, .ref n0, .ref b0, .ref e0, .ref f0, .ref l1, .ref l2, .ref l3, .ref l4, .ref l5, .int (u.2.1 11 2), .int (msk (u.2.2.2 1)), .long (u.1 9 0)]))]) (va_runS (As := [.int x, .int y, .int z]) (rest := []) ⟨hx, hb, hml, hown, hts⟩ (c_X8_isUnitVector l D k s.heap.size x y z) (va_cwS 3 hts gX8_toBody_X8_isUnitVector rfl rfl rfl (by decide +kernel) ⟨Nat.le_of_ble_eq_true rfl, Nat.le_of_ble_eq_true rfl⟩) (z_preS (wc := []) hP hD hK [] rfl rfl zb0 zp0) rfl rfl hl.1 rfl (lv_room (Nat.le_of_ble_eq_true rfl)) dX8_toBody_3 ⟨Nat.zero_le _, Nat.zero_le _⟩) hP hD hS hA [] [0] rfl rfl rfl (by decide) (fun w H locs hF hP hD hS => ?_)
  subst hF
  have hP : va_P D vwCl [(hm, .inr (7, [.ref p0, .ref c0, .ref n0, .ref b0, .ref e0, .ref f0, .ref l1, .ref l2, .ref l3, .ref l4, .ref l5, .int (u.2.1 11 2), .int (msk (u.2.2.2 1)), .long (u.1 9 0)]))] H := hP
  have hD : va_D A [(hm, .inr (7, [.ref p0, .ref c0, .ref n0, .ref b0, .ref e0, .ref f0, .ref l1, .ref l2, .ref l3, .ref l4, .ref l5, .int (u.2.1 11 2), .int (msk (u.2.2.2 1)), .long (u.1 9 0)]))] := hD
  refine lv_if_eq (tgt := 17) hx hb dX8_toBody_6 (by decide) (fun c_1 => ?_) (fun c_1 => ?_)
  · skip
    have c_1 := zb_e c_1
    refine lv_lconst (v := 0) hx hb dX8_toBody_17 (by decide) ?_
    have hP9 := hP.sub (ws' := [(hm, .inr (7, [.ref p0, .ref c0, .ref n0, .ref b0, .ref e0, .ref f0, .ref l1, .ref l2, .ref l3, .ref l4, .ref l5, .int (u.2.1 11 2), .int (msk (u.2.2.2 1)), .long (u.1 9 0)]))]) [0] rfl
    have hD9 := hD.sub (ws' := [(hm, .inr (7, [.ref p0, .ref c0, .ref n0, .ref b0, .ref e0, .ref f0, .ref l1, .ref l2, .ref l3, .ref l4, .ref l5, .int (u.2.1 11 2), .int (msk (u.2.2.2 1)), .long (u.1 9 0)]))]) [0] (by decide) rfl
    exact W.lret (v := 0) hx hb hr (fun t9 ht9 hW9 => ⟨⟨0, [(hm, .inr (7, [.ref p0, .ref c0, .ref n0, .ref b0, .ref e0, .ref f0, .ref l1, .ref l2, .ref l3, .ref l4, .ref l5, .int (u.2.1 11 2), .int (msk (u.2.2.2 1)), .long (u.1 9 0)]))], rfl, ⟨rfl, rfl⟩, by rw [ht9]; exact hP9, hD9⟩, hS.F ht9⟩) hS.2.2 dX8_toBody_18
  · skip
    have c_1 := zb_n c_1
    refine lv_iload hx hb dX8_toBody_9 (lv_at hl 4 rfl) ?_
    refine z_calli0 (wc := []) (wr := [(hm, .inr (7, [.ref p0, .ref c0, .ref n0, .ref b0, .ref e0, .ref f0, .ref l1, .ref l2, .ref l3, .ref l4, .ref l5, .int (u.2.1 11 2), .int (msk (u.2.2.2 1)), .long (u.1 9 0)]))]) (va_runS (As := [.int a]) (rest := []) ⟨hx, hb, hml, hown, hts⟩ (c_X5_isAxis l D k H.size a) (va_cwS 1 hts gX8_toBody_X5_isAxis rfl rfl rfl (by decide +kernel) ⟨Nat.le_of_ble_eq_true rfl, Nat.le_of_ble_eq_true rfl⟩) (z_preS (wc := []) hP hD hK [] rfl rfl zb0 zp0) rfl rfl hl.1 rfl (lv_room (Nat.le_of_ble_eq_true rfl)) dX8_toBody_11 ⟨Nat.zero_le _, Nat.zero_le _⟩) hP hD hS hA [] [0] rfl rfl rfl (by decide) (fun w H locs hF hP hD hS => ?_)
    subst hF
    have hP : va_P D vwCl [(hm, .inr (7, [.ref p0, .ref c0, .ref n0, .ref b0, .ref e0, .ref f0, .ref l1, .ref l2, .ref l3, .ref l4, .ref l5, .int (u.2.1 11 2), .int (msk (u.2.2.2 1)), .long (u.1 9 0)]))] H := hP
    have hD : va_D A [(hm, .inr (7, [.ref p0, .ref c0, .ref n0, .ref b0, .ref e0, .ref f0, .ref l1, .ref l2, .ref l3, .ref l4, .ref l5, .int (u.2.1 11 2), .int (msk (u.2.2.2 1)), .long (u.1 9 0)]))] := hD
    refine lv_if_ne (tgt := 19) hx hb dX8_toBody_14 (by decide) (fun c_2 => ?_) (fun c_2 => ?_)
    · skip
      have c_2 := zb_n c_2
      rw [c_1, c_2] at hno; exact absurd hno (by decide)
    · skip
      have c_2 := zb_e c_2
      refine lv_lconst (v := 0) hx hb dX8_toBody_17 (by decide) ?_
      have hP9 := hP.sub (ws' := [(hm, .inr (7, [.ref p0, .ref c0, .ref n0, .ref b0, .ref e0, .ref f0, .ref l1, .ref l2, .ref l3, .ref l4, .ref l5, .int (u.2.1 11 2), .int (msk (u.2.2.2 1)), .long (u.1 9 0)]))]) [0] rfl
      have hD9 := hD.sub (ws' := [(hm, .inr (7, [.ref p0, .ref c0, .ref n0, .ref b0, .ref e0, .ref f0, .ref l1, .ref l2, .ref l3, .ref l4, .ref l5, .int (u.2.1 11 2), .int (msk (u.2.2.2 1)), .long (u.1 9 0)]))]) [0] (by decide) rfl
      exact W.lret (v := 0) hx hb hr (fun t9 ht9 hW9 => ⟨⟨0, [(hm, .inr (7, [.ref p0, .ref c0, .ref n0, .ref b0, .ref e0, .ref f0, .ref l1, .ref l2, .ref l3, .ref l4, .ref l5, .int (u.2.1 11 2), .int (msk (u.2.2.2 1)), .long (u.1 9 0)]))], rfl, ⟨rfl, rfl⟩, by rw [ht9]; exact hP9, hD9⟩, hS.F ht9⟩) hS.2.2 dX8_toBody_18
set_option maxHeartbeats 4000000 in
set_option maxRecDepth 100000 in
theorem c_X8_visitedBins (l : Launch) (D : va_G) (k : Nat → ClassId) (sz : Nat) (hm p0 c0 n0 b0 e0 f0 l1 l2 l3 l4 l5 : Nat) (u : zS)  : Met l yX8_visitedBins wsX8_visitedBins ({ frames := 1, cells := 0, slots := 0, locals := 20 } : Room) (va_Pc [.ref hm] (zPre D k [(hm, .inr (7, [.ref p0, .ref c0, .ref n0, .ref b0, .ref e0, .ref f0, .ref l1, .ref l2, .ref l3, .ref l4, .ref l5, .int (u.2.1 11 2), .int (msk (u.2.2.2 1)), .long (u.1 9 0)]))] sz zX0)) (zQi D [(hm, .inr (7, [.ref p0, .ref c0, .ref n0, .ref b0, .ref e0, .ref f0, .ref l1, .ref l2, .ref l3, .ref l4, .ref l5, .int (u.2.1 11 2), .int (msk (u.2.2.2 1)), .long (u.1 9 0)]))] sz (nI (cntB (u.2.2.2 1) 13)) (fun w : va_W => w = [(hm, .inr (7, [.ref p0, .ref c0, .ref n0, .ref b0, .ref e0, .ref f0, .ref l1, .ref l2, .ref l3, .ref l4, .ref l5, .int (u.2.1 11 2), .int (msk (u.2.2.2 1)), .long (u.1 9 0)]))])) 0 0 (va_A [(hm, .inr (7, [.ref p0, .ref c0, .ref n0, .ref b0, .ref e0, .ref f0, .ref l1, .ref l2, .ref l3, .ref l4, .ref l5, .int (u.2.1 11 2), .int (msk (u.2.2.2 1)), .long (u.1 9 0)]))] sz) := by
  refine Met.ofW (cc := cX8_visitedBins) (maxL := 1) (ret := (some .int)) (by decide) rfl ?_
  intro p e s m args below meth c s₁ B hml hv
  obtain ⟨rfl, hsz, hP, hK, hD0, hE⟩ := hv
  have hx := B.exec
  have hb := B.bytes
  have hr := B.returns
  have hts := atoms_spec (ws := wsX8_visitedBins) B.pre
  have hown : s.vm.findClass RX8 = some m.cls := findClass_of_methodNamed B.named
  have hlocks := B.notSynchronized
  subst hsz
  have hD := hD0.self (sz := s.heap.size)
  delta zQi zB
  generalize hAe : va_A [(hm, .inr (7, [.ref p0, .ref c0, .ref n0, .ref b0, .ref e0, .ref f0, .ref l1, .ref l2, .ref l3, .ref l4, .ref l5, .int (u.2.1 11 2), .int (msk (u.2.2.2 1)), .long (u.1 9 0)]))] s.heap.size = A at hD hE ⊢
  have hA : ∀ q : Nat, s.heap.size ≤ q → A q := fun q h => by rw [← hAe]; exact Or.inr h
  have hS : va_S A s.heap s.heap [] := va_S.rf
  have hl := lv_entry [.ref hm] (n := 1) (Nat.le_of_ble_eq_true rfl)
  rw [lg_entry_eq]
  generalize (lg_sl [.ref hm] ++ List.replicate (1 - (lg_sl [.ref hm]).length) Slot.unset).toArray = ls at hl ⊢
  have hl : lv_has ls 1 [(0, .ref hm)] := hl
  have hl235 : (Cond.fieldLink RX8 235 "InertialReference" "visited" "I").before #[Value.ref hm] s = true := zw hts 1 rfl
  have hinX8 : ∀ w ∈ u_ws RX8 TX8 14, w ∈ wsX8_visitedBins := fun w h => List.mem_cons_of_mem _ (List.mem_append_right _ h)
  refine lv_aload_n hx hb dX8_visitedBins_0 rfl (lv_at hl 0 rfl) ?_
  refine va_get (D := D) (ci := 7) (v := .int (msk (u.2.2.2 1))) (C := RX8) (T := TX8) (N := 14) hx hb hts hinX8 hown hK hP 0 rfl rfl 12 (Nat.le_of_ble_eq_true rfl) hl235 (fun _ h9 => h9) rfl dX8_visitedBins_1 ?_
  refine z_calli0 (wc := []) (wr := [(hm, .inr (7, [.ref p0, .ref c0, .ref n0, .ref b0, .ref e0, .ref f0, .ref l1, .ref l2, .ref l3, .ref l4, .ref l5, .int (u.2.1 11 2), .int (msk (u.2.2.2 1)), .long (u.1 9 0)]))]) (va_runS (As := [.int (msk (u.2.2.2 1))]) (rest := []) ⟨hx, hb, hml, hown, hts⟩ (c_J6_bitCount_0f7a4 l D k s.heap.size (msk (u.2.2.2 1))) (va_cwS 1 hts gX8_visitedBins_J6_bitCount_0f7a4 rfl rfl rfl (by decide +kernel) ⟨Nat.le_of_ble_eq_true rfl, Nat.le_of_ble_eq_true rfl⟩) (z_preS (wc := []) hP hD hK [] rfl rfl zb0 zp0) rfl rfl hl.1 rfl (lv_room (Nat.le_of_ble_eq_true rfl)) dX8_visitedBins_4 ⟨Nat.zero_le _, Nat.zero_le _⟩) hP hD hS hA [] [0] rfl rfl rfl (by decide) (fun w H locs hF hP hD hS => ?_)
  subst hF
  have hP : va_P D vwCl [(hm, .inr (7, [.ref p0, .ref c0, .ref n0, .ref b0, .ref e0, .ref f0, .ref l1, .ref l2, .ref l3, .ref l4, .ref l5, .int (u.2.1 11 2), .int (msk (u.2.2.2 1)), .long (u.1 9 0)]))] H := hP
  have hD : va_D A [(hm, .inr (7, [.ref p0, .ref c0, .ref n0, .ref b0, .ref e0, .ref f0, .ref l1, .ref l2, .ref l3, .ref l4, .ref l5, .int (u.2.1 11 2), .int (msk (u.2.2.2 1)), .long (u.1 9 0)]))] := hD
  have hP9 := hP.sub (ws' := [(hm, .inr (7, [.ref p0, .ref c0, .ref n0, .ref b0, .ref e0, .ref f0, .ref l1, .ref l2, .ref l3, .ref l4, .ref l5, .int (u.2.1 11 2), .int (msk (u.2.2.2 1)), .long (u.1 9 0)]))]) [0] rfl
  have hD9 := hD.sub (ws' := [(hm, .inr (7, [.ref p0, .ref c0, .ref n0, .ref b0, .ref e0, .ref f0, .ref l1, .ref l2, .ref l3, .ref l4, .ref l5, .int (u.2.1 11 2), .int (msk (u.2.2.2 1)), .long (u.1 9 0)]))]) [0] (by decide) rfl
  exact W.iret (v := bitc (msk (u.2.2.2 1))) hx hb hr (fun t9 ht9 hW9 => ⟨⟨(bitc (msk (u.2.2.2 1))), [(hm, .inr (7, [.ref p0, .ref c0, .ref n0, .ref b0, .ref e0, .ref f0, .ref l1, .ref l2, .ref l3, .ref l4, .ref l5, .int (u.2.1 11 2), .int (msk (u.2.2.2 1)), .long (u.1 9 0)]))], rfl, ⟨by (exact bitc_msk _), rfl⟩, by rw [ht9]; exact hP9, hD9⟩, hS.F ht9⟩) hS.2.2 dX8_visitedBins_7
set_option maxHeartbeats 4000000 in
set_option maxRecDepth 100000 in
theorem c_X8_store_old (l : Launch) (D : va_G) (k : Nat → ClassId) (sz : Nat) (hm p0 c0 n0 b0 e0 e1 e2 e3 e4 e5 e6 e7 g0 g1 g2 g3 g4 g5 q0 f0 f1 f2 f3 l1 l2 l3 l4 l5 : Nat) (u : zS) (wK : Nat → Int64) (a : Int32) (i : Nat) (h0 : zin a 0 999 = true) (hn : u.2.2.1 1 ≤ 30) (hi : i < u.2.2.1 1) (hi2 : u.2.1 10 i = a) (hi3 : ∀ j, j < i → ¬ u.2.1 10 j = a) : Met l yX8_store wsX8_store ({ frames := 2, cells := 0, slots := 0, locals := 45 } : Room) (va_Pc [.ref hm, .int a] (zPre D k [(hm, .inr (7, [.ref p0, .ref c0, .ref n0, .ref b0, .ref e0, .ref f0, .ref l1, .ref l2, .ref l3, .ref l4, .ref l5, .int (u.2.1 11 2), .int (msk (u.2.2.2 1)), .long (u.1 9 0)])), (e0, .inr (4, [.ref g0, .ref q0, .ref e1, .ref e2, .ref e3, .ref e4, .ref e5, .ref e6, .ref e7, .int (u.2.1 11 3), .int (u.2.1 11 4), .int (u.2.1 11 5)])), (g0, .inr (0, [.ref g1, .ref g2, .ref g3, .ref g4, .ref g5])), (g1, zaJ k 4 (u.1 1)), (f0, .inr (1, [.ref f1, .ref f2, .ref f3, .int (nI (u.2.2.1 1))])), (f1, zaI k 30 (u.2.1 10)), (f2, zaJ k 120 (u.1 10)), (f3, zaJ k 4 wK)] sz zN)) (zQi D [(hm, .inr (7, [.ref p0, .ref c0, .ref n0, .ref b0, .ref e0, .ref f0, .ref l1, .ref l2, .ref l3, .ref l4, .ref l5, .int (u.2.1 11 2), .int (msk (u.2.2.2 1)), .long (u.1 9 0)])), (e0, .inr (4, [.ref g0, .ref q0, .ref e1, .ref e2, .ref e3, .ref e4, .ref e5, .ref e6, .ref e7, .int (u.2.1 11 3), .int (u.2.1 11 4), .int (u.2.1 11 5)])), (g0, .inr (0, [.ref g1, .ref g2, .ref g3, .ref g4, .ref g5])), (g1, zaJ k 4 (u.1 1)), (f0, .inr (1, [.ref f1, .ref f2, .ref f3, .int (nI (u.2.2.1 1))])), (f1, zaI k 30 (u.2.1 10)), (f2, zaJ k 120 (u.1 10)), (f3, zaJ k 4 wK)] sz (nI (u.2.2.1 1)) (fun w : va_W => w = [(hm, .inr (7, [.ref p0, .ref c0, .ref n0, .ref b0, .ref e0, .ref f0, .ref l1, .ref l2, .ref l3, .ref l4, .ref l5, .int (u.2.1 11 2), .int (msk (u.2.2.2 1)), .long (u.1 9 0)])), (e0, .inr (4, [.ref g0, .ref q0, .ref e1, .ref e2, .ref e3, .ref e4, .ref e5, .ref e6, .ref e7, .int (u.2.1 11 3), .int (u.2.1 11 4), .int (u.2.1 11 5)])), (g0, .inr (0, [.ref g1, .ref g2, .ref g3, .ref g4, .ref g5])), (g1, zaJ k 4 (u.1 1)), (f0, .inr (1, [.ref f1, .ref f2, .ref f3, .int (nI (u.2.2.1 1))])), (f1, zaI k 30 (u.2.1 10)), (f2, zaJ k 120 (lay4 (u.1 10) (u.1 1) i)), (f3, zaJ k 4 wK)])) 0 0 (va_A [(hm, .inr (7, [.ref p0, .ref c0, .ref n0, .ref b0, .ref e0, .ref f0, .ref l1, .ref l2, .ref l3, .ref l4, .ref l5, .int (u.2.1 11 2), .int (msk (u.2.2.2 1)), .long (u.1 9 0)])), (e0, .inr (4, [.ref g0, .ref q0, .ref e1, .ref e2, .ref e3, .ref e4, .ref e5, .ref e6, .ref e7, .int (u.2.1 11 3), .int (u.2.1 11 4), .int (u.2.1 11 5)])), (g0, .inr (0, [.ref g1, .ref g2, .ref g3, .ref g4, .ref g5])), (g1, zaJ k 4 (u.1 1)), (f0, .inr (1, [.ref f1, .ref f2, .ref f3, .int (nI (u.2.2.1 1))])), (f1, zaI k 30 (u.2.1 10)), (f2, zaJ k 120 (u.1 10)), (f3, zaJ k 4 wK)] sz) := by
  refine Met.ofW (cc := cX8_store) (maxL := 2) (ret := (some .int)) (by decide) rfl ?_
  intro p e s m args below meth c s₁ B hml hv
  obtain ⟨rfl, hsz, hP, hK, hD0, hE⟩ := hv
  have hx := B.exec
  have hb := B.bytes
  have hr := B.returns
  have hts := atoms_spec (ws := wsX8_store) B.pre
  have hown : s.vm.findClass RX8 = some m.cls := findClass_of_methodNamed B.named
  have hlocks := B.notSynchronized
  subst hsz
  have hD := hD0.self (sz := s.heap.size)
  delta zQi zB
  generalize hAe : va_A [(hm, .inr (7, [.ref p0, .ref c0, .ref n0, .ref b0, .ref e0, .ref f0, .ref l1, .ref l2, .ref l3, .ref l4, .ref l5, .int (u.2.1 11 2), .int (msk (u.2.2.2 1)), .long (u.1 9 0)])), (e0, .inr (4, [.ref g0, .ref q0, .ref e1, .ref e2, .ref e3, .ref e4, .ref e5, .ref e6, .ref e7, .int (u.2.1 11 3), .int (u.2.1 11 4), .int (u.2.1 11 5)])), (g0, .inr (0, [.ref g1, .ref g2, .ref g3, .ref g4, .ref g5])), (g1, zaJ k 4 (u.1 1)), (f0, .inr (1, [.ref f1, .ref f2, .ref f3, .int (nI (u.2.2.1 1))])), (f1, zaI k 30 (u.2.1 10)), (f2, zaJ k 120 (u.1 10)), (f3, zaJ k 4 wK)] s.heap.size = A at hD hE ⊢
  have hA : ∀ q : Nat, s.heap.size ≤ q → A q := fun q h => by rw [← hAe]; exact Or.inr h
  have hS : va_S A s.heap s.heap [] := va_S.rf
  have hl := lv_entry [.ref hm, .int a] (n := 2) (Nat.le_of_ble_eq_true rfl)
  rw [lg_entry_eq]
  generalize (lg_sl [.ref hm, .int a] ++ List.replicate (2 - (lg_sl [.ref hm, .int a]).length) Slot.unset).toArray = ls at hl ⊢
  have hl : lv_has ls 2 [(0, .ref hm), (1, .int a)] := hl
  have hl47 : (Cond.fieldLink RX8 47 "InertialReference" "shelf" "LInertialReference$AttitudeShelf;").before #[Value.ref hm, Value.int a] s = true := zw hts 1 rfl
  have hinX8 : ∀ w ∈ u_ws RX8 TX8 14, w ∈ wsX8_store := fun w h => List.mem_cons_of_mem _ (List.mem_append_left _ (List.mem_append_left _ (List.mem_append_left _ (List.mem_append_right _ h))))
  have hl40 : (Cond.fieldLink RX8 40 "InertialReference" "estimator" "LInertialReference$Estimator;").before #[Value.ref hm, Value.int a] s = true := zw hts 2 rfl
  have hl196 : (Cond.fieldLinkNest RX8 196 "InertialReference$Estimator" "attitude" "LInertialReference$Attitude;" "InertialReference").before #[Value.ref hm, Value.int a] s = true := va_Nw.use rfl (zn_RX8_196 hE)
  have hinX4 : ∀ w ∈ u_ws RX4 TX4 12, w ∈ wsX8_store := fun w h => List.mem_cons_of_mem _ (List.mem_append_left _ (List.mem_append_left _ (List.mem_append_right _ h)))
  refine lv_iload_n hx hb dX8_store_0 rfl (lv_at hl 1 rfl) ?_
  refine lv_iconst (v := 0) hx hb dX8_store_1 (by decide) ?_
  refine lv_sipush (v := 999) hx hb dX8_store_2 (by decide) ?_
  refine z_calli0 (wc := []) (wr := [(hm, .inr (7, [.ref p0, .ref c0, .ref n0, .ref b0, .ref e0, .ref f0, .ref l1, .ref l2, .ref l3, .ref l4, .ref l5, .int (u.2.1 11 2), .int (msk (u.2.2.2 1)), .long (u.1 9 0)])), (e0, .inr (4, [.ref g0, .ref q0, .ref e1, .ref e2, .ref e3, .ref e4, .ref e5, .ref e6, .ref e7, .int (u.2.1 11 3), .int (u.2.1 11 4), .int (u.2.1 11 5)])), (g0, .inr (0, [.ref g1, .ref g2, .ref g3, .ref g4, .ref g5])), (g1, zaJ k 4 (u.1 1)), (f0, .inr (1, [.ref f1, .ref f2, .ref f3, .int (nI (u.2.2.1 1))])), (f1, zaI k 30 (u.2.1 10)), (f2, zaJ k 120 (u.1 10)), (f3, zaJ k 4 wK)]) (va_runS (As := [.int a, .int 0, .int 999]) (rest := []) ⟨hx, hb, hml, hown, hts⟩ (c_X5_isBetween l D k s.heap.size a 0 999) (va_cwS 3 hts gX8_store_X5_isBetween rfl rfl rfl (by decide +kernel) ⟨Nat.le_of_ble_eq_true rfl, Nat.le_of_ble_eq_true rfl⟩) (z_preS (wc := []) hP hD hK [] rfl rfl zb0 zp0) rfl rfl hl.1 rfl (lv_room (Nat.le_of_ble_eq_true rfl)) dX8_store_5 ⟨Nat.zero_le _, Nat.zero_le _⟩) hP hD hS hA [] [0, 1, 2, 3, 4, 5, 6, 7] rfl rfl rfl (by decide) (fun w H locs hF hP hD hS => ?_)
  subst hF
  have hP : va_P D vwCl [(hm, .inr (7, [.ref p0, .ref c0, .ref n0, .ref b0, .ref e0, .ref f0, .ref l1, .ref l2, .ref l3, .ref l4, .ref l5, .int (u.2.1 11 2), .int (msk (u.2.2.2 1)), .long (u.1 9 0)])), (e0, .inr (4, [.ref g0, .ref q0, .ref e1, .ref e2, .ref e3, .ref e4, .ref e5, .ref e6, .ref e7, .int (u.2.1 11 3), .int (u.2.1 11 4), .int (u.2.1 11 5)])), (g0, .inr (0, [.ref g1, .ref g2, .ref g3, .ref g4, .ref g5])), (g1, zaJ k 4 (u.1 1)), (f0, .inr (1, [.ref f1, .ref f2, .ref f3, .int (nI (u.2.2.1 1))])), (f1, zaI k 30 (u.2.1 10)), (f2, zaJ k 120 (u.1 10)), (f3, zaJ k 4 wK)] H := hP
  have hD : va_D A [(hm, .inr (7, [.ref p0, .ref c0, .ref n0, .ref b0, .ref e0, .ref f0, .ref l1, .ref l2, .ref l3, .ref l4, .ref l5, .int (u.2.1 11 2), .int (msk (u.2.2.2 1)), .long (u.1 9 0)])), (e0, .inr (4, [.ref g0, .ref q0, .ref e1, .ref e2, .ref e3, .ref e4, .ref e5, .ref e6, .ref e7, .int (u.2.1 11 3), .int (u.2.1 11 4), .int (u.2.1 11 5)])), (g0, .inr (0, [.ref g1, .ref g2, .ref g3, .ref g4, .ref g5])), (g1, zaJ k 4 (u.1 1)), (f0, .inr (1, [.ref f1, .ref f2, .ref f3, .int (nI (u.2.2.1 1))])), (f1, zaI k 30 (u.2.1 10)), (f2, zaJ k 120 (u.1 10)), (f3, zaJ k 4 wK)] := hD
  refine W.eq (g2 := F0 m 8 ls (.int (zb (zin a 0 999)) :: [])) (by rw [zIi a 0 999 (A := 0) (B := 999) (by decide) (by decide)]) ?_
  refine lv_if_ne (tgt := 14) hx hb dX8_store_8 (by decide) (fun c_1 => ?_) (fun c_1 => ?_)
  · skip
    have c_1 := zb_n c_1
    refine lv_aload_n hx hb dX8_store_14 rfl (lv_at hl 0 rfl) ?_
    refine va_get (D := D) (ci := 7) (v := .ref f0) (C := RX8) (T := TX8) (N := 14) hx hb hts hinX8 hown hK hP 0 rfl rfl 5 (Nat.le_of_ble_eq_true rfl) hl47 (fun _ h9 => h9) rfl dX8_store_15 ?_
    refine lv_iload_n hx hb dX8_store_18 rfl (lv_at hl 1 rfl) ?_
    refine lv_aload_n hx hb dX8_store_19 rfl (lv_at hl 0 rfl) ?_
    refine va_get (D := D) (ci := 7) (v := .ref e0) (C := RX8) (T := TX8) (N := 14) hx hb hts hinX8 hown hK hP 0 rfl rfl 4 (Nat.le_of_ble_eq_true rfl) hl40 (fun _ h9 => h9) rfl dX8_store_20 ?_
    refine va_getN (D := D) (ci := 4) (v := .ref g0) (C := RX4) (T := TX4) (N := 12) hx hb hts hinX4 hown hK hP 1 rfl rfl 0 (Nat.le_of_ble_eq_true rfl) hl196 (fun _ h9 => h9) rfl dX8_store_23 ?_
    refine z_calli0 (wc := [(f0, .inr (1, [.ref f1, .ref f2, .ref f3, .int (nI (u.2.2.1 1))])), (f1, zaI k 30 (u.2.1 10)), (f2, zaJ k 120 (u.1 10)), (f3, zaJ k 4 wK), (g0, .inr (0, [.ref g1, .ref g2, .ref g3, .ref g4, .ref g5])), (g1, zaJ k 4 (u.1 1))]) (wr := [(hm, .inr (7, [.ref p0, .ref c0, .ref n0, .ref b0, .ref e0, .ref f0, .ref l1, .ref l2, .ref l3, .ref l4, .ref l5, .int (u.2.1 11 2), .int (msk (u.2.2.2 1)), .long (u.1 9 0)])), (e0, .inr (4, [.ref g0, .ref q0, .ref e1, .ref e2, .ref e3, .ref e4, .ref e5, .ref e6, .ref e7, .int (u.2.1 11 3), .int (u.2.1 11 4), .int (u.2.1 11 5)]))]) (va_runV (As := [.int a, .ref g0]) (rest := []) ⟨hx, hb, hml, hown, hts⟩ (c_X1_put_old l D k H.size f0 f1 f2 f3 (u.2.2.1 1) g0 g1 g2 g3 g4 g5 (u.2.1 10) (u.1 10) wK (u.1 1) a i hn hi hi2 hi3) (cwV 2 hts gX8_store_X1_put rfl rfl rfl (by decide +kernel) ⟨Nat.le_of_ble_eq_true rfl, Nat.le_of_ble_eq_true rfl⟩) (z_preV (wc := [(f0, .inr (1, [.ref f1, .ref f2, .ref f3, .int (nI (u.2.2.1 1))])), (f1, zaI k 30 (u.2.1 10)), (f2, zaJ k 120 (u.1 10)), (f3, zaJ k 4 wK), (g0, .inr (0, [.ref g1, .ref g2, .ref g3, .ref g4, .ref g5])), (g1, zaJ k 4 (u.1 1))]) 4 1 hP hD hK [4, 5, 6, 7, 2, 3] rfl rfl rfl rfl zNb (zNp hE)) rfl rfl hl.1 rfl (lv_room (Nat.le_of_ble_eq_true rfl)) dX8_store_26 ⟨Nat.zero_le _, Nat.zero_le _⟩) hP hD hS hA [4, 5, 6, 7, 2, 3] [0, 1] rfl rfl rfl (by decide) (fun w H locs hF hP hD hS => ?_)
    subst hF
    have hP : va_P D vwCl [(hm, .inr (7, [.ref p0, .ref c0, .ref n0, .ref b0, .ref e0, .ref f0, .ref l1, .ref l2, .ref l3, .ref l4, .ref l5, .int (u.2.1 11 2), .int (msk (u.2.2.2 1)), .long (u.1 9 0)])), (e0, .inr (4, [.ref g0, .ref q0, .ref e1, .ref e2, .ref e3, .ref e4, .ref e5, .ref e6, .ref e7, .int (u.2.1 11 3), .int (u.2.1 11 4), .int (u.2.1 11 5)])), (f0, .inr (1, [.ref f1, .ref f2, .ref f3, .int (nI (u.2.2.1 1))])), (f1, zaI k 30 (u.2.1 10)), (f2, zaJ k 120 (lay4 (u.1 10) (u.1 1) i)), (f3, zaJ k 4 wK), (g0, .inr (0, [.ref g1, .ref g2, .ref g3, .ref g4, .ref g5])), (g1, zaJ k 4 (u.1 1))] H := hP
    have hD : va_D A [(hm, .inr (7, [.ref p0, .ref c0, .ref n0, .ref b0, .ref e0, .ref f0, .ref l1, .ref l2, .ref l3, .ref l4, .ref l5, .int (u.2.1 11 2), .int (msk (u.2.2.2 1)), .long (u.1 9 0)])), (e0, .inr (4, [.ref g0, .ref q0, .ref e1, .ref e2, .ref e3, .ref e4, .ref e5, .ref e6, .ref e7, .int (u.2.1 11 3), .int (u.2.1 11 4), .int (u.2.1 11 5)])), (f0, .inr (1, [.ref f1, .ref f2, .ref f3, .int (nI (u.2.2.1 1))])), (f1, zaI k 30 (u.2.1 10)), (f2, zaJ k 120 (lay4 (u.1 10) (u.1 1) i)), (f3, zaJ k 4 wK), (g0, .inr (0, [.ref g1, .ref g2, .ref g3, .ref g4, .ref g5])), (g1, zaJ k 4 (u.1 1))] := hD
    have hP9 := hP.sub (ws' := [(hm, .inr (7, [.ref p0, .ref c0, .ref n0, .ref b0, .ref e0, .ref f0, .ref l1, .ref l2, .ref l3, .ref l4, .ref l5, .int (u.2.1 11 2), .int (msk (u.2.2.2 1)), .long (u.1 9 0)])), (e0, .inr (4, [.ref g0, .ref q0, .ref e1, .ref e2, .ref e3, .ref e4, .ref e5, .ref e6, .ref e7, .int (u.2.1 11 3), .int (u.2.1 11 4), .int (u.2.1 11 5)])), (g0, .inr (0, [.ref g1, .ref g2, .ref g3, .ref g4, .ref g5])), (g1, zaJ k 4 (u.1 1)), (f0, .inr (1, [.ref f1, .ref f2, .ref f3, .int (nI (u.2.2.1 1))])), (f1, zaI k 30 (u.2.1 10)), (f2, zaJ k 120 (lay4 (u.1 10) (u.1 1) i)), (f3, zaJ k 4 wK)]) [0, 1, 6, 7, 2, 3, 4, 5] rfl
    have hD9 := hD.sub (ws' := [(hm, .inr (7, [.ref p0, .ref c0, .ref n0, .ref b0, .ref e0, .ref f0, .ref l1, .ref l2, .ref l3, .ref l4, .ref l5, .int (u.2.1 11 2), .int (msk (u.2.2.2 1)), .long (u.1 9 0)])), (e0, .inr (4, [.ref g0, .ref q0, .ref e1, .ref e2, .ref e3, .ref e4, .ref e5, .ref e6, .ref e7, .int (u.2.1 11 3), .int (u.2.1 11 4), .int (u.2.1 11 5)])), (g0, .inr (0, [.ref g1, .ref g2, .ref g3, .ref g4, .ref g5])), (g1, zaJ k 4 (u.1 1)), (f0, .inr (1, [.ref f1, .ref f2, .ref f3, .int (nI (u.2.2.1 1))])), (f1, zaI k 30 (u.2.1 10)), (f2, zaJ k 120 (lay4 (u.1 10) (u.1 1) i)), (f3, zaJ k 4 wK)]) [0, 1, 6, 7, 2, 3, 4, 5] (by decide) rfl
    exact W.iret (v := nI (u.2.2.1 1)) hx hb hr (fun t9 ht9 hW9 => ⟨⟨(nI (u.2.2.1 1)), [(hm, .inr (7, [.ref p0, .ref c0, .ref n0, .ref b0, .ref e0, .ref f0, .ref l1, .ref l2, .ref l3, .ref l4, .ref l5, .int (u.2.1 11 2), .int (msk (u.2.2.2 1)), .long (u.1 9 0)])), (e0, .inr (4, [.ref g0, .ref q0, .ref e1, .ref e2, .ref e3, .ref e4, .ref e5, .ref e6, .ref e7, .int (u.2.1 11 3), .int (u.2.1 11 4), .int (u.2.1 11 5)])), (g0, .inr (0, [.ref g1, .ref g2, .ref g3, .ref g4, .ref g5])), (g1, zaJ k 4 (u.1 1)), (f0, .inr (1, [.ref f1, .ref f2, .ref f3, .int (nI (u.2.2.1 1))])), (f1, zaI k 30 (u.2.1 10)), (f2, zaJ k 120 (lay4 (u.1 10) (u.1 1) i)), (f3, zaJ k 4 wK)], rfl, ⟨rfl, rfl⟩, by rw [ht9]; exact hP9, hD9⟩, hS.F ht9⟩) hS.2.2 dX8_store_29
  · skip
    have c_1 := zb_e c_1
    first | exact absurd (c_1.symm.trans h0) (by decide)
set_option maxHeartbeats 4000000 in
set_option maxRecDepth 100000 in
theorem c_X8_store_new (l : Launch) (D : va_G) (k : Nat → ClassId) (sz : Nat) (hm p0 c0 n0 b0 e0 e1 e2 e3 e4 e5 e6 e7 g0 g1 g2 g3 g4 g5 q0 f0 f1 f2 f3 l1 l2 l3 l4 l5 : Nat) (u : zS) (wK : Nat → Int64) (a : Int32) (h0 : zin a 0 999 = true) (hn : u.2.2.1 1 < 30) (hi3 : ∀ j, j < u.2.2.1 1 → ¬ u.2.1 10 j = a) : Met l yX8_store wsX8_store ({ frames := 2, cells := 0, slots := 0, locals := 45 } : Room) (va_Pc [.ref hm, .int a] (zPre D k [(hm, .inr (7, [.ref p0, .ref c0, .ref n0, .ref b0, .ref e0, .ref f0, .ref l1, .ref l2, .ref l3, .ref l4, .ref l5, .int (u.2.1 11 2), .int (msk (u.2.2.2 1)), .long (u.1 9 0)])), (e0, .inr (4, [.ref g0, .ref q0, .ref e1, .ref e2, .ref e3, .ref e4, .ref e5, .ref e6, .ref e7, .int (u.2.1 11 3), .int (u.2.1 11 4), .int (u.2.1 11 5)])), (g0, .inr (0, [.ref g1, .ref g2, .ref g3, .ref g4, .ref g5])), (g1, zaJ k 4 (u.1 1)), (f0, .inr (1, [.ref f1, .ref f2, .ref f3, .int (nI (u.2.2.1 1))])), (f1, zaI k 30 (u.2.1 10)), (f2, zaJ k 120 (u.1 10)), (f3, zaJ k 4 wK)] sz zN)) (zQi D [(hm, .inr (7, [.ref p0, .ref c0, .ref n0, .ref b0, .ref e0, .ref f0, .ref l1, .ref l2, .ref l3, .ref l4, .ref l5, .int (u.2.1 11 2), .int (msk (u.2.2.2 1)), .long (u.1 9 0)])), (e0, .inr (4, [.ref g0, .ref q0, .ref e1, .ref e2, .ref e3, .ref e4, .ref e5, .ref e6, .ref e7, .int (u.2.1 11 3), .int (u.2.1 11 4), .int (u.2.1 11 5)])), (g0, .inr (0, [.ref g1, .ref g2, .ref g3, .ref g4, .ref g5])), (g1, zaJ k 4 (u.1 1)), (f0, .inr (1, [.ref f1, .ref f2, .ref f3, .int (nI (u.2.2.1 1))])), (f1, zaI k 30 (u.2.1 10)), (f2, zaJ k 120 (u.1 10)), (f3, zaJ k 4 wK)] sz (nI (u.2.2.1 1 + 1)) (fun w : va_W => w = [(hm, .inr (7, [.ref p0, .ref c0, .ref n0, .ref b0, .ref e0, .ref f0, .ref l1, .ref l2, .ref l3, .ref l4, .ref l5, .int (u.2.1 11 2), .int (msk (u.2.2.2 1)), .long (u.1 9 0)])), (e0, .inr (4, [.ref g0, .ref q0, .ref e1, .ref e2, .ref e3, .ref e4, .ref e5, .ref e6, .ref e7, .int (u.2.1 11 3), .int (u.2.1 11 4), .int (u.2.1 11 5)])), (g0, .inr (0, [.ref g1, .ref g2, .ref g3, .ref g4, .ref g5])), (g1, zaJ k 4 (u.1 1)), (f0, .inr (1, [.ref f1, .ref f2, .ref f3, .int (nI (u.2.2.1 1 + 1))])), (f1, zaI k 30 (upd (u.2.1 10) (u.2.2.1 1) a)), (f2, zaJ k 120 (lay4 (u.1 10) (u.1 1) (u.2.2.1 1))), (f3, zaJ k 4 wK)])) 0 0 (va_A [(hm, .inr (7, [.ref p0, .ref c0, .ref n0, .ref b0, .ref e0, .ref f0, .ref l1, .ref l2, .ref l3, .ref l4, .ref l5, .int (u.2.1 11 2), .int (msk (u.2.2.2 1)), .long (u.1 9 0)])), (e0, .inr (4, [.ref g0, .ref q0, .ref e1, .ref e2, .ref e3, .ref e4, .ref e5, .ref e6, .ref e7, .int (u.2.1 11 3), .int (u.2.1 11 4), .int (u.2.1 11 5)])), (g0, .inr (0, [.ref g1, .ref g2, .ref g3, .ref g4, .ref g5])), (g1, zaJ k 4 (u.1 1)), (f0, .inr (1, [.ref f1, .ref f2, .ref f3, .int (nI (u.2.2.1 1))])), (f1, zaI k 30 (u.2.1 10)), (f2, zaJ k 120 (u.1 10)), (f3, zaJ k 4 wK)] sz) := by
  refine Met.ofW (cc := cX8_store) (maxL := 2) (ret := (some .int)) (by decide) rfl ?_
  intro p e s m args below meth c s₁ B hml hv
  obtain ⟨rfl, hsz, hP, hK, hD0, hE⟩ := hv
  have hx := B.exec
  have hb := B.bytes
  have hr := B.returns
  have hts := atoms_spec (ws := wsX8_store) B.pre
  have hown : s.vm.findClass RX8 = some m.cls := findClass_of_methodNamed B.named
  have hlocks := B.notSynchronized
  subst hsz
  have hD := hD0.self (sz := s.heap.size)
  delta zQi zB
  generalize hAe : va_A [(hm, .inr (7, [.ref p0, .ref c0, .ref n0, .ref b0, .ref e0, .ref f0, .ref l1, .ref l2, .ref l3, .ref l4, .ref l5, .int (u.2.1 11 2), .int (msk (u.2.2.2 1)), .long (u.1 9 0)])), (e0, .inr (4, [.ref g0, .ref q0, .ref e1, .ref e2, .ref e3, .ref e4, .ref e5, .ref e6, .ref e7, .int (u.2.1 11 3), .int (u.2.1 11 4), .int (u.2.1 11 5)])), (g0, .inr (0, [.ref g1, .ref g2, .ref g3, .ref g4, .ref g5])), (g1, zaJ k 4 (u.1 1)), (f0, .inr (1, [.ref f1, .ref f2, .ref f3, .int (nI (u.2.2.1 1))])), (f1, zaI k 30 (u.2.1 10)), (f2, zaJ k 120 (u.1 10)), (f3, zaJ k 4 wK)] s.heap.size = A at hD hE ⊢
  have hA : ∀ q : Nat, s.heap.size ≤ q → A q := fun q h => by rw [← hAe]; exact Or.inr h
  have hS : va_S A s.heap s.heap [] := va_S.rf
  have hl := lv_entry [.ref hm, .int a] (n := 2) (Nat.le_of_ble_eq_true rfl)
  rw [lg_entry_eq]
  generalize (lg_sl [.ref hm, .int a] ++ List.replicate (2 - (lg_sl [.ref hm, .int a]).length) Slot.unset).toArray = ls at hl ⊢
  have hl : lv_has ls 2 [(0, .ref hm), (1, .int a)] := hl
  have hl47 : (Cond.fieldLink RX8 47 "InertialReference" "shelf" "LInertialReference$AttitudeShelf;").before #[Value.ref hm, Value.int a] s = true := zw hts 1 rfl
  have hinX8 : ∀ w ∈ u_ws RX8 TX8 14, w ∈ wsX8_store := fun w h => List.mem_cons_of_mem _ (List.mem_append_left _ (List.mem_append_left _ (List.mem_append_left _ (List.mem_append_right _ h))))
  have hl40 : (Cond.fieldLink RX8 40 "InertialReference" "estimator" "LInertialReference$Estimator;").before #[Value.ref hm, Value.int a] s = true := zw hts 2 rfl
  have hl196 : (Cond.fieldLinkNest RX8 196 "InertialReference$Estimator" "attitude" "LInertialReference$Attitude;" "InertialReference").before #[Value.ref hm, Value.int a] s = true := va_Nw.use rfl (zn_RX8_196 hE)
  have hinX4 : ∀ w ∈ u_ws RX4 TX4 12, w ∈ wsX8_store := fun w h => List.mem_cons_of_mem _ (List.mem_append_left _ (List.mem_append_left _ (List.mem_append_right _ h)))
  refine lv_iload_n hx hb dX8_store_0 rfl (lv_at hl 1 rfl) ?_
  refine lv_iconst (v := 0) hx hb dX8_store_1 (by decide) ?_
  refine lv_sipush (v := 999) hx hb dX8_store_2 (by decide) ?_
  refine z_calli0 (wc := []) (wr := [(hm, .inr (7, [.ref p0, .ref c0, .ref n0, .ref b0, .ref e0, .ref f0, .ref l1, .ref l2, .ref l3, .ref l4, .ref l5, .int (u.2.1 11 2), .int (msk (u.2.2.2 1)), .long (u.1 9 0)])), (e0, .inr (4, [.ref g0, .ref q0, .ref e1, .ref e2, .ref e3, .ref e4, .ref e5, .ref e6, .ref e7, .int (u.2.1 11 3), .int (u.2.1 11 4), .int (u.2.1 11 5)])), (g0, .inr (0, [.ref g1, .ref g2, .ref g3, .ref g4, .ref g5])), (g1, zaJ k 4 (u.1 1)), (f0, .inr (1, [.ref f1, .ref f2, .ref f3, .int (nI (u.2.2.1 1))])), (f1, zaI k 30 (u.2.1 10)), (f2, zaJ k 120 (u.1 10)), (f3, zaJ k 4 wK)]) (va_runS (As := [.int a, .int 0, .int 999]) (rest := []) ⟨hx, hb, hml, hown, hts⟩ (c_X5_isBetween l D k s.heap.size a 0 999) (va_cwS 3 hts gX8_store_X5_isBetween rfl rfl rfl (by decide +kernel) ⟨Nat.le_of_ble_eq_true rfl, Nat.le_of_ble_eq_true rfl⟩) (z_preS (wc := []) hP hD hK [] rfl rfl zb0 zp0) rfl rfl hl.1 rfl (lv_room (Nat.le_of_ble_eq_true rfl)) dX8_store_5 ⟨Nat.zero_le _, Nat.zero_le _⟩) hP hD hS hA [] [0, 1, 2, 3, 4, 5, 6, 7] rfl rfl rfl (by decide) (fun w H locs hF hP hD hS => ?_)
  subst hF
  have hP : va_P D vwCl [(hm, .inr (7, [.ref p0, .ref c0, .ref n0, .ref b0, .ref e0, .ref f0, .ref l1, .ref l2, .ref l3, .ref l4, .ref l5, .int (u.2.1 11 2), .int (msk (u.2.2.2 1)), .long (u.1 9 0)])), (e0, .inr (4, [.ref g0, .ref q0, .ref e1, .ref e2, .ref e3, .ref e4, .ref e5, .ref e6, .ref e7, .int (u.2.1 11 3), .int (u.2.1 11 4), .int (u.2.1 11 5)])), (g0, .inr (0, [.ref g1, .ref g2, .ref g3, .ref g4, .ref g5])), (g1, zaJ k 4 (u.1 1)), (f0, .inr (1, [.ref f1, .ref f2, .ref f3, .int (nI (u.2.2.1 1))])), (f1, zaI k 30 (u.2.1 10)), (f2, zaJ k 120 (u.1 10)), (f3, zaJ k 4 wK)] H := hP
  have hD : va_D A [(hm, .inr (7, [.ref p0, .ref c0, .ref n0, .ref b0, .ref e0, .ref f0, .ref l1, .ref l2, .ref l3, .ref l4, .ref l5, .int (u.2.1 11 2), .int (msk (u.2.2.2 1)), .long (u.1 9 0)])), (e0, .inr (4, [.ref g0, .ref q0, .ref e1, .ref e2, .ref e3, .ref e4, .ref e5, .ref e6, .ref e7, .int (u.2.1 11 3), .int (u.2.1 11 4), .int (u.2.1 11 5)])), (g0, .inr (0, [.ref g1, .ref g2, .ref g3, .ref g4, .ref g5])), (g1, zaJ k 4 (u.1 1)), (f0, .inr (1, [.ref f1, .ref f2, .ref f3, .int (nI (u.2.2.1 1))])), (f1, zaI k 30 (u.2.1 10)), (f2, zaJ k 120 (u.1 10)), (f3, zaJ k 4 wK)] := hD
  refine W.eq (g2 := F0 m 8 ls (.int (zb (zin a 0 999)) :: [])) (by rw [zIi a 0 999 (A := 0) (B := 999) (by decide) (by decide)]) ?_
  refine lv_if_ne (tgt := 14) hx hb dX8_store_8 (by decide) (fun c_1 => ?_) (fun c_1 => ?_)
  · skip
    have c_1 := zb_n c_1
    refine lv_aload_n hx hb dX8_store_14 rfl (lv_at hl 0 rfl) ?_
    refine va_get (D := D) (ci := 7) (v := .ref f0) (C := RX8) (T := TX8) (N := 14) hx hb hts hinX8 hown hK hP 0 rfl rfl 5 (Nat.le_of_ble_eq_true rfl) hl47 (fun _ h9 => h9) rfl dX8_store_15 ?_
    refine lv_iload_n hx hb dX8_store_18 rfl (lv_at hl 1 rfl) ?_
    refine lv_aload_n hx hb dX8_store_19 rfl (lv_at hl 0 rfl) ?_
    refine va_get (D := D) (ci := 7) (v := .ref e0) (C := RX8) (T := TX8) (N := 14) hx hb hts hinX8 hown hK hP 0 rfl rfl 4 (Nat.le_of_ble_eq_true rfl) hl40 (fun _ h9 => h9) rfl dX8_store_20 ?_
    refine va_getN (D := D) (ci := 4) (v := .ref g0) (C := RX4) (T := TX4) (N := 12) hx hb hts hinX4 hown hK hP 1 rfl rfl 0 (Nat.le_of_ble_eq_true rfl) hl196 (fun _ h9 => h9) rfl dX8_store_23 ?_
    refine z_calli0 (wc := [(f0, .inr (1, [.ref f1, .ref f2, .ref f3, .int (nI (u.2.2.1 1))])), (f1, zaI k 30 (u.2.1 10)), (f2, zaJ k 120 (u.1 10)), (f3, zaJ k 4 wK), (g0, .inr (0, [.ref g1, .ref g2, .ref g3, .ref g4, .ref g5])), (g1, zaJ k 4 (u.1 1))]) (wr := [(hm, .inr (7, [.ref p0, .ref c0, .ref n0, .ref b0, .ref e0, .ref f0, .ref l1, .ref l2, .ref l3, .ref l4, .ref l5, .int (u.2.1 11 2), .int (msk (u.2.2.2 1)), .long (u.1 9 0)])), (e0, .inr (4, [.ref g0, .ref q0, .ref e1, .ref e2, .ref e3, .ref e4, .ref e5, .ref e6, .ref e7, .int (u.2.1 11 3), .int (u.2.1 11 4), .int (u.2.1 11 5)]))]) (va_runV (As := [.int a, .ref g0]) (rest := []) ⟨hx, hb, hml, hown, hts⟩ (c_X1_put_new l D k H.size f0 f1 f2 f3 (u.2.2.1 1) g0 g1 g2 g3 g4 g5 (u.2.1 10) (u.1 10) wK (u.1 1) a hn hi3) (cwV 2 hts gX8_store_X1_put rfl rfl rfl (by decide +kernel) ⟨Nat.le_of_ble_eq_true rfl, Nat.le_of_ble_eq_true rfl⟩) (z_preV (wc := [(f0, .inr (1, [.ref f1, .ref f2, .ref f3, .int (nI (u.2.2.1 1))])), (f1, zaI k 30 (u.2.1 10)), (f2, zaJ k 120 (u.1 10)), (f3, zaJ k 4 wK), (g0, .inr (0, [.ref g1, .ref g2, .ref g3, .ref g4, .ref g5])), (g1, zaJ k 4 (u.1 1))]) 4 1 hP hD hK [4, 5, 6, 7, 2, 3] rfl rfl rfl rfl zNb (zNp hE)) rfl rfl hl.1 rfl (lv_room (Nat.le_of_ble_eq_true rfl)) dX8_store_26 ⟨Nat.zero_le _, Nat.zero_le _⟩) hP hD hS hA [4, 5, 6, 7, 2, 3] [0, 1] rfl rfl rfl (by decide) (fun w H locs hF hP hD hS => ?_)
    subst hF
    have hP : va_P D vwCl [(hm, .inr (7, [.ref p0, .ref c0, .ref n0, .ref b0, .ref e0, .ref f0, .ref l1, .ref l2, .ref l3, .ref l4, .ref l5, .int (u.2.1 11 2), .int (msk (u.2.2.2 1)), .long (u.1 9 0)])), (e0, .inr (4, [.ref g0, .ref q0, .ref e1, .ref e2, .ref e3, .ref e4, .ref e5, .ref e6, .ref e7, .int (u.2.1 11 3), .int (u.2.1 11 4), .int (u.2.1 11 5)])), (f0, .inr (1, [.ref f1, .ref f2, .ref f3, .int (nI ((u.2.2.1 1) + 1))])), (f1, zaI k 30 (upd (u.2.1 10) (u.2.2.1 1) a)), (f2, zaJ k 120 (lay4 (u.1 10) (u.1 1) (u.2.2.1 1))), (f3, zaJ k 4 wK), (g0, .inr (0, [.ref g1, .ref g2, .ref g3, .ref g4, .ref g5])), (g1, zaJ k 4 (u.1 1))] H := hP
    have hD : va_D A [(hm, .inr (7, [.ref p0, .ref c0, .ref n0, .ref b0, .ref e0, .ref f0, .ref l1, .ref l2, .ref l3, .ref l4, .ref l5, .int (u.2.1 11 2), .int (msk (u.2.2.2 1)), .long (u.1 9 0)])), (e0, .inr (4, [.ref g0, .ref q0, .ref e1, .ref e2, .ref e3, .ref e4, .ref e5, .ref e6, .ref e7, .int (u.2.1 11 3), .int (u.2.1 11 4), .int (u.2.1 11 5)])), (f0, .inr (1, [.ref f1, .ref f2, .ref f3, .int (nI ((u.2.2.1 1) + 1))])), (f1, zaI k 30 (upd (u.2.1 10) (u.2.2.1 1) a)), (f2, zaJ k 120 (lay4 (u.1 10) (u.1 1) (u.2.2.1 1))), (f3, zaJ k 4 wK), (g0, .inr (0, [.ref g1, .ref g2, .ref g3, .ref g4, .ref g5])), (g1, zaJ k 4 (u.1 1))] := hD
    have hP := z_congO hP 2 rfl (fs2 := [.ref f1, .ref f2, .ref f3, .int (nI (u.2.2.1 1 + 1))]) (by rfl) (ws' := [(hm, .inr (7, [.ref p0, .ref c0, .ref n0, .ref b0, .ref e0, .ref f0, .ref l1, .ref l2, .ref l3, .ref l4, .ref l5, .int (u.2.1 11 2), .int (msk (u.2.2.2 1)), .long (u.1 9 0)])), (e0, .inr (4, [.ref g0, .ref q0, .ref e1, .ref e2, .ref e3, .ref e4, .ref e5, .ref e6, .ref e7, .int (u.2.1 11 3), .int (u.2.1 11 4), .int (u.2.1 11 5)])), (f0, .inr (1, [.ref f1, .ref f2, .ref f3, .int (nI (u.2.2.1 1 + 1))])), (f1, zaI k 30 (upd (u.2.1 10) (u.2.2.1 1) a)), (f2, zaJ k 120 (lay4 (u.1 10) (u.1 1) (u.2.2.1 1))), (f3, zaJ k 4 wK), (g0, .inr (0, [.ref g1, .ref g2, .ref g3, .ref g4, .ref g5])), (g1, zaJ k 4 (u.1 1))]) rfl
    have hD := z_congDO hD 2 rfl (fs2 := [.ref f1, .ref f2, .ref f3, .int (nI (u.2.2.1 1 + 1))]) (ws' := [(hm, .inr (7, [.ref p0, .ref c0, .ref n0, .ref b0, .ref e0, .ref f0, .ref l1, .ref l2, .ref l3, .ref l4, .ref l5, .int (u.2.1 11 2), .int (msk (u.2.2.2 1)), .long (u.1 9 0)])), (e0, .inr (4, [.ref g0, .ref q0, .ref e1, .ref e2, .ref e3, .ref e4, .ref e5, .ref e6, .ref e7, .int (u.2.1 11 3), .int (u.2.1 11 4), .int (u.2.1 11 5)])), (f0, .inr (1, [.ref f1, .ref f2, .ref f3, .int (nI (u.2.2.1 1 + 1))])), (f1, zaI k 30 (upd (u.2.1 10) (u.2.2.1 1) a)), (f2, zaJ k 120 (lay4 (u.1 10) (u.1 1) (u.2.2.1 1))), (f3, zaJ k 4 wK), (g0, .inr (0, [.ref g1, .ref g2, .ref g3, .ref g4, .ref g5])), (g1, zaJ k 4 (u.1 1))]) rfl
    have hP9 := hP.sub (ws' := [(hm, .inr (7, [.ref p0, .ref c0, .ref n0, .ref b0, .ref e0, .ref f0, .ref l1, .ref l2, .ref l3, .ref l4, .ref l5, .int (u.2.1 11 2), .int (msk (u.2.2.2 1)), .long (u.1 9 0)])), (e0, .inr (4, [.ref g0, .ref q0, .ref e1, .ref e2, .ref e3, .ref e4, .ref e5, .ref e6, .ref e7, .int (u.2.1 11 3), .int (u.2.1 11 4), .int (u.2.1 11 5)])), (g0, .inr (0, [.ref g1, .ref g2, .ref g3, .ref g4, .ref g5])), (g1, zaJ k 4 (u.1 1)), (f0, .inr (1, [.ref f1, .ref f2, .ref f3, .int (nI (u.2.2.1 1 + 1))])), (f1, zaI k 30 (upd (u.2.1 10) (u.2.2.1 1) a)), (f2, zaJ k 120 (lay4 (u.1 10) (u.1 1) (u.2.2.1 1))), (f3, zaJ k 4 wK)]) [0, 1, 6, 7, 2, 3, 4, 5] rfl
    have hD9 := hD.sub (ws' := [(hm, .inr (7, [.ref p0, .ref c0, .ref n0, .ref b0, .ref e0, .ref f0, .ref l1, .ref l2, .ref l3, .ref l4, .ref l5, .int (u.2.1 11 2), .int (msk (u.2.2.2 1)), .long (u.1 9 0)])), (e0, .inr (4, [.ref g0, .ref q0, .ref e1, .ref e2, .ref e3, .ref e4, .ref e5, .ref e6, .ref e7, .int (u.2.1 11 3), .int (u.2.1 11 4), .int (u.2.1 11 5)])), (g0, .inr (0, [.ref g1, .ref g2, .ref g3, .ref g4, .ref g5])), (g1, zaJ k 4 (u.1 1)), (f0, .inr (1, [.ref f1, .ref f2, .ref f3, .int (nI (u.2.2.1 1 + 1))])), (f1, zaI k 30 (upd (u.2.1 10) (u.2.2.1 1) a)), (f2, zaJ k 120 (lay4 (u.1 10) (u.1 1) (u.2.2.1 1))), (f3, zaJ k 4 wK)]) [0, 1, 6, 7, 2, 3, 4, 5] (by decide) rfl
    exact W.iret (v := nI ((u.2.2.1 1) + 1)) hx hb hr (fun t9 ht9 hW9 => ⟨⟨(nI ((u.2.2.1 1) + 1)), [(hm, .inr (7, [.ref p0, .ref c0, .ref n0, .ref b0, .ref e0, .ref f0, .ref l1, .ref l2, .ref l3, .ref l4, .ref l5, .int (u.2.1 11 2), .int (msk (u.2.2.2 1)), .long (u.1 9 0)])), (e0, .inr (4, [.ref g0, .ref q0, .ref e1, .ref e2, .ref e3, .ref e4, .ref e5, .ref e6, .ref e7, .int (u.2.1 11 3), .int (u.2.1 11 4), .int (u.2.1 11 5)])), (g0, .inr (0, [.ref g1, .ref g2, .ref g3, .ref g4, .ref g5])), (g1, zaJ k 4 (u.1 1)), (f0, .inr (1, [.ref f1, .ref f2, .ref f3, .int (nI (u.2.2.1 1 + 1))])), (f1, zaI k 30 (upd (u.2.1 10) (u.2.2.1 1) a)), (f2, zaJ k 120 (lay4 (u.1 10) (u.1 1) (u.2.2.1 1))), (f3, zaJ k 4 wK)], rfl, ⟨by rfl, rfl⟩, by rw [ht9]; exact hP9, hD9⟩, hS.F ht9⟩) hS.2.2 dX8_store_29
  · skip
    have c_1 := zb_e c_1
    first | exact absurd (c_1.symm.trans h0) (by decide)
set_option maxHeartbeats 4000000 in
set_option maxRecDepth 100000 in
theorem c_X8_store_full (l : Launch) (D : va_G) (k : Nat → ClassId) (sz : Nat) (hm p0 c0 n0 b0 e0 e1 e2 e3 e4 e5 e6 e7 g0 g1 g2 g3 g4 g5 q0 f0 f1 f2 f3 l1 l2 l3 l4 l5 : Nat) (u : zS) (wK : Nat → Int64) (a : Int32) (h0 : zin a 0 999 = true) (hn : u.2.2.1 1 = 30) (hi3 : ∀ j, j < u.2.2.1 1 → ¬ u.2.1 10 j = a) : Met l yX8_store wsX8_store ({ frames := 2, cells := 0, slots := 0, locals := 45 } : Room) (va_Pc [.ref hm, .int a] (zPre D k [(hm, .inr (7, [.ref p0, .ref c0, .ref n0, .ref b0, .ref e0, .ref f0, .ref l1, .ref l2, .ref l3, .ref l4, .ref l5, .int (u.2.1 11 2), .int (msk (u.2.2.2 1)), .long (u.1 9 0)])), (e0, .inr (4, [.ref g0, .ref q0, .ref e1, .ref e2, .ref e3, .ref e4, .ref e5, .ref e6, .ref e7, .int (u.2.1 11 3), .int (u.2.1 11 4), .int (u.2.1 11 5)])), (g0, .inr (0, [.ref g1, .ref g2, .ref g3, .ref g4, .ref g5])), (g1, zaJ k 4 (u.1 1)), (f0, .inr (1, [.ref f1, .ref f2, .ref f3, .int (nI (u.2.2.1 1))])), (f1, zaI k 30 (u.2.1 10)), (f2, zaJ k 120 (u.1 10)), (f3, zaJ k 4 wK)] sz zN)) (zQi D [(hm, .inr (7, [.ref p0, .ref c0, .ref n0, .ref b0, .ref e0, .ref f0, .ref l1, .ref l2, .ref l3, .ref l4, .ref l5, .int (u.2.1 11 2), .int (msk (u.2.2.2 1)), .long (u.1 9 0)])), (e0, .inr (4, [.ref g0, .ref q0, .ref e1, .ref e2, .ref e3, .ref e4, .ref e5, .ref e6, .ref e7, .int (u.2.1 11 3), .int (u.2.1 11 4), .int (u.2.1 11 5)])), (g0, .inr (0, [.ref g1, .ref g2, .ref g3, .ref g4, .ref g5])), (g1, zaJ k 4 (u.1 1)), (f0, .inr (1, [.ref f1, .ref f2, .ref f3, .int (nI (u.2.2.1 1))])), (f1, zaI k 30 (u.2.1 10)), (f2, zaJ k 120 (u.1 10)), (f3, zaJ k 4 wK)] sz (-3) (fun w : va_W => w = [(hm, .inr (7, [.ref p0, .ref c0, .ref n0, .ref b0, .ref e0, .ref f0, .ref l1, .ref l2, .ref l3, .ref l4, .ref l5, .int (u.2.1 11 2), .int (msk (u.2.2.2 1)), .long (u.1 9 0)])), (e0, .inr (4, [.ref g0, .ref q0, .ref e1, .ref e2, .ref e3, .ref e4, .ref e5, .ref e6, .ref e7, .int (u.2.1 11 3), .int (u.2.1 11 4), .int (u.2.1 11 5)])), (g0, .inr (0, [.ref g1, .ref g2, .ref g3, .ref g4, .ref g5])), (g1, zaJ k 4 (u.1 1)), (f0, .inr (1, [.ref f1, .ref f2, .ref f3, .int (nI (u.2.2.1 1))])), (f1, zaI k 30 (u.2.1 10)), (f2, zaJ k 120 (u.1 10)), (f3, zaJ k 4 wK)])) 0 0 (va_A [(hm, .inr (7, [.ref p0, .ref c0, .ref n0, .ref b0, .ref e0, .ref f0, .ref l1, .ref l2, .ref l3, .ref l4, .ref l5, .int (u.2.1 11 2), .int (msk (u.2.2.2 1)), .long (u.1 9 0)])), (e0, .inr (4, [.ref g0, .ref q0, .ref e1, .ref e2, .ref e3, .ref e4, .ref e5, .ref e6, .ref e7, .int (u.2.1 11 3), .int (u.2.1 11 4), .int (u.2.1 11 5)])), (g0, .inr (0, [.ref g1, .ref g2, .ref g3, .ref g4, .ref g5])), (g1, zaJ k 4 (u.1 1)), (f0, .inr (1, [.ref f1, .ref f2, .ref f3, .int (nI (u.2.2.1 1))])), (f1, zaI k 30 (u.2.1 10)), (f2, zaJ k 120 (u.1 10)), (f3, zaJ k 4 wK)] sz) := by
  refine Met.ofW (cc := cX8_store) (maxL := 2) (ret := (some .int)) (by decide) rfl ?_
  intro p e s m args below meth c s₁ B hml hv
  obtain ⟨rfl, hsz, hP, hK, hD0, hE⟩ := hv
  have hx := B.exec
  have hb := B.bytes
  have hr := B.returns
  have hts := atoms_spec (ws := wsX8_store) B.pre
  have hown : s.vm.findClass RX8 = some m.cls := findClass_of_methodNamed B.named
  have hlocks := B.notSynchronized
  subst hsz
  have hD := hD0.self (sz := s.heap.size)
  delta zQi zB
  generalize hAe : va_A [(hm, .inr (7, [.ref p0, .ref c0, .ref n0, .ref b0, .ref e0, .ref f0, .ref l1, .ref l2, .ref l3, .ref l4, .ref l5, .int (u.2.1 11 2), .int (msk (u.2.2.2 1)), .long (u.1 9 0)])), (e0, .inr (4, [.ref g0, .ref q0, .ref e1, .ref e2, .ref e3, .ref e4, .ref e5, .ref e6, .ref e7, .int (u.2.1 11 3), .int (u.2.1 11 4), .int (u.2.1 11 5)])), (g0, .inr (0, [.ref g1, .ref g2, .ref g3, .ref g4, .ref g5])), (g1, zaJ k 4 (u.1 1)), (f0, .inr (1, [.ref f1, .ref f2, .ref f3, .int (nI (u.2.2.1 1))])), (f1, zaI k 30 (u.2.1 10)), (f2, zaJ k 120 (u.1 10)), (f3, zaJ k 4 wK)] s.heap.size = A at hD hE ⊢
  have hA : ∀ q : Nat, s.heap.size ≤ q → A q := fun q h => by rw [← hAe]; exact Or.inr h
  have hS : va_S A s.heap s.heap [] := va_S.rf
  have hl := lv_entry [.ref hm, .int a] (n := 2) (Nat.le_of_ble_eq_true rfl)
  rw [lg_entry_eq]
  generalize (lg_sl [.ref hm, .int a] ++ List.replicate (2 - (lg_sl [.ref hm, .int a]).length) Slot.unset).toArray = ls at hl ⊢
  have hl : lv_has ls 2 [(0, .ref hm), (1, .int a)] := hl
  have hl47 : (Cond.fieldLink RX8 47 "InertialReference" "shelf" "LInertialReference$AttitudeShelf;").before #[Value.ref hm, Value.int a] s = true := zw hts 1 rfl
  have hinX8 : ∀ w ∈ u_ws RX8 TX8 14, w ∈ wsX8_store := fun w h => List.mem_cons_of_mem _ (List.mem_append_left _ (List.mem_append_left _ (List.mem_append_left _ (List.mem_append_right _ h))))
  have hl40 : (Cond.fieldLink RX8 40 "InertialReference" "estimator" "LInertialReference$Estimator;").before #[Value.ref hm, Value.int a] s = true := zw hts 2 rfl
  have hl196 : (Cond.fieldLinkNest RX8 196 "InertialReference$Estimator" "attitude" "LInertialReference$Attitude;" "InertialReference").before #[Value.ref hm, Value.int a] s = true := va_Nw.use rfl (zn_RX8_196 hE)
  have hinX4 : ∀ w ∈ u_ws RX4 TX4 12, w ∈ wsX8_store := fun w h => List.mem_cons_of_mem _ (List.mem_append_left _ (List.mem_append_left _ (List.mem_append_right _ h)))
  refine lv_iload_n hx hb dX8_store_0 rfl (lv_at hl 1 rfl) ?_
  refine lv_iconst (v := 0) hx hb dX8_store_1 (by decide) ?_
  refine lv_sipush (v := 999) hx hb dX8_store_2 (by decide) ?_
  refine z_calli0 (wc := []) (wr := [(hm, .inr (7, [.ref p0, .ref c0, .ref n0, .ref b0, .ref e0, .ref f0, .ref l1, .ref l2, .ref l3, .ref l4, .ref l5, .int (u.2.1 11 2), .int (msk (u.2.2.2 1)), .long (u.1 9 0)])), (e0, .inr (4, [.ref g0, .ref q0, .ref e1, .ref e2, .ref e3, .ref e4, .ref e5, .ref e6, .ref e7, .int (u.2.1 11 3), .int (u.2.1 11 4), .int (u.2.1 11 5)])), (g0, .inr (0, [.ref g1, .ref g2, .ref g3, .ref g4, .ref g5])), (g1, zaJ k 4 (u.1 1)), (f0, .inr (1, [.ref f1, .ref f2, .ref f3, .int (nI (u.2.2.1 1))])), (f1, zaI k 30 (u.2.1 10)), (f2, zaJ k 120 (u.1 10)), (f3, zaJ k 4 wK)]) (va_runS (As := [.int a, .int 0, .int 999]) (rest := []) ⟨hx, hb, hml, hown, hts⟩ (c_X5_isBetween l D k s.heap.size a 0 999) (va_cwS 3 hts gX8_store_X5_isBetween rfl rfl rfl (by decide +kernel) ⟨Nat.le_of_ble_eq_true rfl, Nat.le_of_ble_eq_true rfl⟩) (z_preS (wc := []) hP hD hK [] rfl rfl zb0 zp0) rfl rfl hl.1 rfl (lv_room (Nat.le_of_ble_eq_true rfl)) dX8_store_5 ⟨Nat.zero_le _, Nat.zero_le _⟩) hP hD hS hA [] [0, 1, 2, 3, 4, 5, 6, 7] rfl rfl rfl (by decide) (fun w H locs hF hP hD hS => ?_)
  subst hF
  have hP : va_P D vwCl [(hm, .inr (7, [.ref p0, .ref c0, .ref n0, .ref b0, .ref e0, .ref f0, .ref l1, .ref l2, .ref l3, .ref l4, .ref l5, .int (u.2.1 11 2), .int (msk (u.2.2.2 1)), .long (u.1 9 0)])), (e0, .inr (4, [.ref g0, .ref q0, .ref e1, .ref e2, .ref e3, .ref e4, .ref e5, .ref e6, .ref e7, .int (u.2.1 11 3), .int (u.2.1 11 4), .int (u.2.1 11 5)])), (g0, .inr (0, [.ref g1, .ref g2, .ref g3, .ref g4, .ref g5])), (g1, zaJ k 4 (u.1 1)), (f0, .inr (1, [.ref f1, .ref f2, .ref f3, .int (nI (u.2.2.1 1))])), (f1, zaI k 30 (u.2.1 10)), (f2, zaJ k 120 (u.1 10)), (f3, zaJ k 4 wK)] H := hP
  have hD : va_D A [(hm, .inr (7, [.ref p0, .ref c0, .ref n0, .ref b0, .ref e0, .ref f0, .ref l1, .ref l2, .ref l3, .ref l4, .ref l5, .int (u.2.1 11 2), .int (msk (u.2.2.2 1)), .long (u.1 9 0)])), (e0, .inr (4, [.ref g0, .ref q0, .ref e1, .ref e2, .ref e3, .ref e4, .ref e5, .ref e6, .ref e7, .int (u.2.1 11 3), .int (u.2.1 11 4), .int (u.2.1 11 5)])), (g0, .inr (0, [.ref g1, .ref g2, .ref g3, .ref g4, .ref g5])), (g1, zaJ k 4 (u.1 1)), (f0, .inr (1, [.ref f1, .ref f2, .ref f3, .int (nI (u.2.2.1 1))])), (f1, zaI k 30 (u.2.1 10)), (f2, zaJ k 120 (u.1 10)), (f3, zaJ k 4 wK)] := hD
  refine W.eq (g2 := F0 m 8 ls (.int (zb (zin a 0 999)) :: [])) (by rw [zIi a 0 999 (A := 0) (B := 999) (by decide) (by decide)]) ?_
  refine lv_if_ne (tgt := 14) hx hb dX8_store_8 (by decide) (fun c_1 => ?_) (fun c_1 => ?_)
  · skip
    have c_1 := zb_n c_1
    refine lv_aload_n hx hb dX8_store_14 rfl (lv_at hl 0 rfl) ?_
    refine va_get (D := D) (ci := 7) (v := .ref f0) (C := RX8) (T := TX8) (N := 14) hx hb hts hinX8 hown hK hP 0 rfl rfl 5 (Nat.le_of_ble_eq_true rfl) hl47 (fun _ h9 => h9) rfl dX8_store_15 ?_
    refine lv_iload_n hx hb dX8_store_18 rfl (lv_at hl 1 rfl) ?_
    refine lv_aload_n hx hb dX8_store_19 rfl (lv_at hl 0 rfl) ?_
    refine va_get (D := D) (ci := 7) (v := .ref e0) (C := RX8) (T := TX8) (N := 14) hx hb hts hinX8 hown hK hP 0 rfl rfl 4 (Nat.le_of_ble_eq_true rfl) hl40 (fun _ h9 => h9) rfl dX8_store_20 ?_
    refine va_getN (D := D) (ci := 4) (v := .ref g0) (C := RX4) (T := TX4) (N := 12) hx hb hts hinX4 hown hK hP 1 rfl rfl 0 (Nat.le_of_ble_eq_true rfl) hl196 (fun _ h9 => h9) rfl dX8_store_23 ?_
    refine z_calli0 (wc := [(f0, .inr (1, [.ref f1, .ref f2, .ref f3, .int (nI (u.2.2.1 1))])), (f1, zaI k 30 (u.2.1 10)), (f2, zaJ k 120 (u.1 10)), (f3, zaJ k 4 wK), (g0, .inr (0, [.ref g1, .ref g2, .ref g3, .ref g4, .ref g5])), (g1, zaJ k 4 (u.1 1))]) (wr := [(hm, .inr (7, [.ref p0, .ref c0, .ref n0, .ref b0, .ref e0, .ref f0, .ref l1, .ref l2, .ref l3, .ref l4, .ref l5, .int (u.2.1 11 2), .int (msk (u.2.2.2 1)), .long (u.1 9 0)])), (e0, .inr (4, [.ref g0, .ref q0, .ref e1, .ref e2, .ref e3, .ref e4, .ref e5, .ref e6, .ref e7, .int (u.2.1 11 3), .int (u.2.1 11 4), .int (u.2.1 11 5)]))]) (va_runV (As := [.int a, .ref g0]) (rest := []) ⟨hx, hb, hml, hown, hts⟩ (c_X1_put_full l D k H.size f0 f1 f2 f3 (u.2.2.1 1) g0 g1 g2 g3 g4 g5 (u.2.1 10) (u.1 10) wK (u.1 1) a hn hi3) (cwV 2 hts gX8_store_X1_put rfl rfl rfl (by decide +kernel) ⟨Nat.le_of_ble_eq_true rfl, Nat.le_of_ble_eq_true rfl⟩) (z_preV (wc := [(f0, .inr (1, [.ref f1, .ref f2, .ref f3, .int (nI (u.2.2.1 1))])), (f1, zaI k 30 (u.2.1 10)), (f2, zaJ k 120 (u.1 10)), (f3, zaJ k 4 wK), (g0, .inr (0, [.ref g1, .ref g2, .ref g3, .ref g4, .ref g5])), (g1, zaJ k 4 (u.1 1))]) 4 1 hP hD hK [4, 5, 6, 7, 2, 3] rfl rfl rfl rfl zNb (zNp hE)) rfl rfl hl.1 rfl (lv_room (Nat.le_of_ble_eq_true rfl)) dX8_store_26 ⟨Nat.zero_le _, Nat.zero_le _⟩) hP hD hS hA [4, 5, 6, 7, 2, 3] [0, 1] rfl rfl rfl (by decide) (fun w H locs hF hP hD hS => ?_)
    subst hF
    have hP : va_P D vwCl [(hm, .inr (7, [.ref p0, .ref c0, .ref n0, .ref b0, .ref e0, .ref f0, .ref l1, .ref l2, .ref l3, .ref l4, .ref l5, .int (u.2.1 11 2), .int (msk (u.2.2.2 1)), .long (u.1 9 0)])), (e0, .inr (4, [.ref g0, .ref q0, .ref e1, .ref e2, .ref e3, .ref e4, .ref e5, .ref e6, .ref e7, .int (u.2.1 11 3), .int (u.2.1 11 4), .int (u.2.1 11 5)])), (f0, .inr (1, [.ref f1, .ref f2, .ref f3, .int (nI (u.2.2.1 1))])), (f1, zaI k 30 (u.2.1 10)), (f2, zaJ k 120 (u.1 10)), (f3, zaJ k 4 wK), (g0, .inr (0, [.ref g1, .ref g2, .ref g3, .ref g4, .ref g5])), (g1, zaJ k 4 (u.1 1))] H := hP
    have hD : va_D A [(hm, .inr (7, [.ref p0, .ref c0, .ref n0, .ref b0, .ref e0, .ref f0, .ref l1, .ref l2, .ref l3, .ref l4, .ref l5, .int (u.2.1 11 2), .int (msk (u.2.2.2 1)), .long (u.1 9 0)])), (e0, .inr (4, [.ref g0, .ref q0, .ref e1, .ref e2, .ref e3, .ref e4, .ref e5, .ref e6, .ref e7, .int (u.2.1 11 3), .int (u.2.1 11 4), .int (u.2.1 11 5)])), (f0, .inr (1, [.ref f1, .ref f2, .ref f3, .int (nI (u.2.2.1 1))])), (f1, zaI k 30 (u.2.1 10)), (f2, zaJ k 120 (u.1 10)), (f3, zaJ k 4 wK), (g0, .inr (0, [.ref g1, .ref g2, .ref g3, .ref g4, .ref g5])), (g1, zaJ k 4 (u.1 1))] := hD
    have hP9 := hP.sub (ws' := [(hm, .inr (7, [.ref p0, .ref c0, .ref n0, .ref b0, .ref e0, .ref f0, .ref l1, .ref l2, .ref l3, .ref l4, .ref l5, .int (u.2.1 11 2), .int (msk (u.2.2.2 1)), .long (u.1 9 0)])), (e0, .inr (4, [.ref g0, .ref q0, .ref e1, .ref e2, .ref e3, .ref e4, .ref e5, .ref e6, .ref e7, .int (u.2.1 11 3), .int (u.2.1 11 4), .int (u.2.1 11 5)])), (g0, .inr (0, [.ref g1, .ref g2, .ref g3, .ref g4, .ref g5])), (g1, zaJ k 4 (u.1 1)), (f0, .inr (1, [.ref f1, .ref f2, .ref f3, .int (nI (u.2.2.1 1))])), (f1, zaI k 30 (u.2.1 10)), (f2, zaJ k 120 (u.1 10)), (f3, zaJ k 4 wK)]) [0, 1, 6, 7, 2, 3, 4, 5] rfl
    have hD9 := hD.sub (ws' := [(hm, .inr (7, [.ref p0, .ref c0, .ref n0, .ref b0, .ref e0, .ref f0, .ref l1, .ref l2, .ref l3, .ref l4, .ref l5, .int (u.2.1 11 2), .int (msk (u.2.2.2 1)), .long (u.1 9 0)])), (e0, .inr (4, [.ref g0, .ref q0, .ref e1, .ref e2, .ref e3, .ref e4, .ref e5, .ref e6, .ref e7, .int (u.2.1 11 3), .int (u.2.1 11 4), .int (u.2.1 11 5)])), (g0, .inr (0, [.ref g1, .ref g2, .ref g3, .ref g4, .ref g5])), (g1, zaJ k 4 (u.1 1)), (f0, .inr (1, [.ref f1, .ref f2, .ref f3, .int (nI (u.2.2.1 1))])), (f1, zaI k 30 (u.2.1 10)), (f2, zaJ k 120 (u.1 10)), (f3, zaJ k 4 wK)]) [0, 1, 6, 7, 2, 3, 4, 5] (by decide) rfl
    exact W.iret (v := -3) hx hb hr (fun t9 ht9 hW9 => ⟨⟨(-3), [(hm, .inr (7, [.ref p0, .ref c0, .ref n0, .ref b0, .ref e0, .ref f0, .ref l1, .ref l2, .ref l3, .ref l4, .ref l5, .int (u.2.1 11 2), .int (msk (u.2.2.2 1)), .long (u.1 9 0)])), (e0, .inr (4, [.ref g0, .ref q0, .ref e1, .ref e2, .ref e3, .ref e4, .ref e5, .ref e6, .ref e7, .int (u.2.1 11 3), .int (u.2.1 11 4), .int (u.2.1 11 5)])), (g0, .inr (0, [.ref g1, .ref g2, .ref g3, .ref g4, .ref g5])), (g1, zaJ k 4 (u.1 1)), (f0, .inr (1, [.ref f1, .ref f2, .ref f3, .int (nI (u.2.2.1 1))])), (f1, zaI k 30 (u.2.1 10)), (f2, zaJ k 120 (u.1 10)), (f3, zaJ k 4 wK)], rfl, ⟨rfl, rfl⟩, by rw [ht9]; exact hP9, hD9⟩, hS.F ht9⟩) hS.2.2 dX8_store_29
  · skip
    have c_1 := zb_e c_1
    first | exact absurd (c_1.symm.trans h0) (by decide)
set_option maxHeartbeats 4000000 in
set_option maxRecDepth 100000 in
theorem c_X8_store_no (l : Launch) (D : va_G) (k : Nat → ClassId) (sz : Nat) (hm p0 c0 n0 b0 e0 f0 l1 l2 l3 l4 l5 : Nat) (u : zS) (a : Int32) (hno : zin a 0 999 = false) : Met l yX8_store wsX8_store ({ frames := 1, cells := 0, slots := 0, locals := 22 } : Room) (va_Pc [.ref hm, .int a] (zPre D k [(hm, .inr (7, [.ref p0, .ref c0, .ref n0, .ref b0, .ref e0, .ref f0, .ref l1, .ref l2, .ref l3, .ref l4, .ref l5, .int (u.2.1 11 2), .int (msk (u.2.2.2 1)), .long (u.1 9 0)]))] sz zX0)) (zQi D [(hm, .inr (7, [.ref p0, .ref c0, .ref n0, .ref b0, .ref e0, .ref f0, .ref l1, .ref l2, .ref l3, .ref l4, .ref l5, .int (u.2.1 11 2), .int (msk (u.2.2.2 1)), .long (u.1 9 0)]))] sz (-2) (fun w : va_W => w = [(hm, .inr (7, [.ref p0, .ref c0, .ref n0, .ref b0, .ref e0, .ref f0, .ref l1, .ref l2, .ref l3, .ref l4, .ref l5, .int (u.2.1 11 2), .int (msk (u.2.2.2 1)), .long (u.1 9 0)]))])) 0 0 (va_A [(hm, .inr (7, [.ref p0, .ref c0, .ref n0, .ref b0, .ref e0, .ref f0, .ref l1, .ref l2, .ref l3, .ref l4, .ref l5, .int (u.2.1 11 2), .int (msk (u.2.2.2 1)), .long (u.1 9 0)]))] sz) := by
  refine Met.ofW (cc := cX8_store) (maxL := 2) (ret := (some .int)) (by decide) rfl ?_
  intro p e s m args below meth c s₁ B hml hv
  obtain ⟨rfl, hsz, hP, hK, hD0, hE⟩ := hv
  have hx := B.exec
  have hb := B.bytes
  have hr := B.returns
  have hts := atoms_spec (ws := wsX8_store) B.pre
  have hown : s.vm.findClass RX8 = some m.cls := findClass_of_methodNamed B.named
  have hlocks := B.notSynchronized
  subst hsz
  have hD := hD0.self (sz := s.heap.size)
  delta zQi zB
  generalize hAe : va_A [(hm, .inr (7, [.ref p0, .ref c0, .ref n0, .ref b0, .ref e0, .ref f0, .ref l1, .ref l2, .ref l3, .ref l4, .ref l5, .int (u.2.1 11 2), .int (msk (u.2.2.2 1)), .long (u.1 9 0)]))] s.heap.size = A at hD hE ⊢
  have hA : ∀ q : Nat, s.heap.size ≤ q → A q := fun q h => by rw [← hAe]; exact Or.inr h
  have hS : va_S A s.heap s.heap [] := va_S.rf
  have hl := lv_entry [.ref hm, .int a] (n := 2) (Nat.le_of_ble_eq_true rfl)
  rw [lg_entry_eq]
  generalize (lg_sl [.ref hm, .int a] ++ List.replicate (2 - (lg_sl [.ref hm, .int a]).length) Slot.unset).toArray = ls at hl ⊢
  have hl : lv_has ls 2 [(0, .ref hm), (1, .int a)] := hl
  refine lv_iload_n hx hb dX8_store_0 rfl (lv_at hl 1 rfl) ?_
  refine lv_iconst (v := 0) hx hb dX8_store_1 (by decide) ?_
  refine lv_sipush (v := 999) hx hb dX8_store_2 (by decide) ?_
  refine z_calli0 (wc := []) (wr := [(hm, .inr (7, [.ref p0, .ref c0, .ref n0, .ref b0, .ref e0, .ref f0, .ref l1, .ref l2, .ref l3, .ref l4, .ref l5, .int (u.2.1 11 2), .int (msk (u.2.2.2 1)), .long (u.1 9 0)]))]) (va_runS (As := [.int a, .int 0, .int 999]) (rest := []) ⟨hx, hb, hml, hown, hts⟩ (c_X5_isBetween l D k s.heap.size a 0 999) (va_cwS 3 hts gX8_store_X5_isBetween rfl rfl rfl (by decide +kernel) ⟨Nat.le_of_ble_eq_true rfl, Nat.le_of_ble_eq_true rfl⟩) (z_preS (wc := []) hP hD hK [] rfl rfl zb0 zp0) rfl rfl hl.1 rfl (lv_room (Nat.le_of_ble_eq_true rfl)) dX8_store_5 ⟨Nat.zero_le _, Nat.zero_le _⟩) hP hD hS hA [] [0] rfl rfl rfl (by decide) (fun w H locs hF hP hD hS => ?_)
  subst hF
  have hP : va_P D vwCl [(hm, .inr (7, [.ref p0, .ref c0, .ref n0, .ref b0, .ref e0, .ref f0, .ref l1, .ref l2, .ref l3, .ref l4, .ref l5, .int (u.2.1 11 2), .int (msk (u.2.2.2 1)), .long (u.1 9 0)]))] H := hP
  have hD : va_D A [(hm, .inr (7, [.ref p0, .ref c0, .ref n0, .ref b0, .ref e0, .ref f0, .ref l1, .ref l2, .ref l3, .ref l4, .ref l5, .int (u.2.1 11 2), .int (msk (u.2.2.2 1)), .long (u.1 9 0)]))] := hD
  refine W.eq (g2 := F0 m 8 ls (.int (zb (zin a 0 999)) :: [])) (by rw [zIi a 0 999 (A := 0) (B := 999) (by decide) (by decide)]) ?_
  refine lv_if_ne (tgt := 14) hx hb dX8_store_8 (by decide) (fun c_1 => ?_) (fun c_1 => ?_)
  · skip
    have c_1 := zb_n c_1
    rw [c_1] at hno; exact absurd hno (by decide)
  · skip
    have c_1 := zb_e c_1
    refine lv_bipush (v := (-2)) hx hb dX8_store_11 (by decide) ?_
    have hP9 := hP.sub (ws' := [(hm, .inr (7, [.ref p0, .ref c0, .ref n0, .ref b0, .ref e0, .ref f0, .ref l1, .ref l2, .ref l3, .ref l4, .ref l5, .int (u.2.1 11 2), .int (msk (u.2.2.2 1)), .long (u.1 9 0)]))]) [0] rfl
    have hD9 := hD.sub (ws' := [(hm, .inr (7, [.ref p0, .ref c0, .ref n0, .ref b0, .ref e0, .ref f0, .ref l1, .ref l2, .ref l3, .ref l4, .ref l5, .int (u.2.1 11 2), .int (msk (u.2.2.2 1)), .long (u.1 9 0)]))]) [0] (by decide) rfl
    exact W.iret (v := (-2)) hx hb hr (fun t9 ht9 hW9 => ⟨⟨(-2), [(hm, .inr (7, [.ref p0, .ref c0, .ref n0, .ref b0, .ref e0, .ref f0, .ref l1, .ref l2, .ref l3, .ref l4, .ref l5, .int (u.2.1 11 2), .int (msk (u.2.2.2 1)), .long (u.1 9 0)]))], rfl, ⟨rfl, rfl⟩, by rw [ht9]; exact hP9, hD9⟩, hS.F ht9⟩) hS.2.2 dX8_store_13
set_option maxHeartbeats 4000000 in
set_option maxRecDepth 100000 in
theorem c_X8_recall_yes (l : Launch) (D : va_G) (k : Nat → ClassId) (sz : Nat) (hm p0 c0 n0 b0 e0 e1 e2 e3 e4 e5 e6 e7 g0 g1 g2 g3 g4 g5 g6 g7 g8 q0 f0 f1 f2 f3 l1 l2 l3 l4 l5 : Nat) (u : zS) (wK : Nat → Int64) (a : Int32) (i : Nat) (hn : u.2.2.1 1 ≤ 30) (hi : i < u.2.2.1 1) (hi2 : u.2.1 10 i = a) (hi3 : ∀ j, j < i → ¬ u.2.1 10 j = a) : Met l yX8_recall wsX8_recall ({ frames := 2, cells := 0, slots := 0, locals := 49 } : Room) (va_Pc [.ref hm, .int a] (zPre D k [(hm, .inr (7, [.ref p0, .ref c0, .ref n0, .ref b0, .ref e0, .ref f0, .ref l1, .ref l2, .ref l3, .ref l4, .ref l5, .int (u.2.1 11 2), .int (msk (u.2.2.2 1)), .long (u.1 9 0)])), (e0, .inr (4, [.ref g0, .ref q0, .ref e1, .ref e2, .ref e3, .ref e4, .ref e5, .ref e6, .ref e7, .int (u.2.1 11 3), .int (u.2.1 11 4), .int (u.2.1 11 5)])), (g0, .inr (0, [.ref g1, .ref g2, .ref g3, .ref g4, .ref g5])), (g1, zaJ k 4 (u.1 1)), (g5, zaG k 3 (gr3 g6 g7 g8)), (g6, zaJ k 3 (mrow0 (u.1 1))), (g7, zaJ k 3 (mrow1 (u.1 1))), (g8, zaJ k 3 (mrow2 (u.1 1))), (f0, .inr (1, [.ref f1, .ref f2, .ref f3, .int (nI (u.2.2.1 1))])), (f1, zaI k 30 (u.2.1 10)), (f2, zaJ k 120 (u.1 10)), (f3, zaJ k 4 wK)] sz zN)) (zQi D [(hm, .inr (7, [.ref p0, .ref c0, .ref n0, .ref b0, .ref e0, .ref f0, .ref l1, .ref l2, .ref l3, .ref l4, .ref l5, .int (u.2.1 11 2), .int (msk (u.2.2.2 1)), .long (u.1 9 0)])), (e0, .inr (4, [.ref g0, .ref q0, .ref e1, .ref e2, .ref e3, .ref e4, .ref e5, .ref e6, .ref e7, .int (u.2.1 11 3), .int (u.2.1 11 4), .int (u.2.1 11 5)])), (g0, .inr (0, [.ref g1, .ref g2, .ref g3, .ref g4, .ref g5])), (g1, zaJ k 4 (u.1 1)), (g5, zaG k 3 (gr3 g6 g7 g8)), (g6, zaJ k 3 (mrow0 (u.1 1))), (g7, zaJ k 3 (mrow1 (u.1 1))), (g8, zaJ k 3 (mrow2 (u.1 1))), (f0, .inr (1, [.ref f1, .ref f2, .ref f3, .int (nI (u.2.2.1 1))])), (f1, zaI k 30 (u.2.1 10)), (f2, zaJ k 120 (u.1 10)), (f3, zaJ k 4 wK)] sz 0 (fun w : va_W => w = [(hm, .inr (7, [.ref p0, .ref c0, .ref n0, .ref b0, .ref e0, .ref f0, .ref l1, .ref l2, .ref l3, .ref l4, .ref l5, .int (u.2.1 11 2), .int (msk (u.2.2.2 1)), .long (u.1 9 0)])), (e0, .inr (4, [.ref g0, .ref q0, .ref e1, .ref e2, .ref e3, .ref e4, .ref e5, .ref e6, .ref e7, .int (u.2.1 11 3), .int (u.2.1 11 4), .int (u.2.1 11 5)])), (g0, .inr (0, [.ref g1, .ref g2, .ref g3, .ref g4, .ref g5])), (g1, zaJ k 4 (pick (u.1 10) i)), (g5, zaG k 3 (gr3 g6 g7 g8)), (g6, zaJ k 3 (mrow0 (pick (u.1 10) i))), (g7, zaJ k 3 (mrow1 (pick (u.1 10) i))), (g8, zaJ k 3 (mrow2 (pick (u.1 10) i))), (f0, .inr (1, [.ref f1, .ref f2, .ref f3, .int (nI (u.2.2.1 1))])), (f1, zaI k 30 (u.2.1 10)), (f2, zaJ k 120 (u.1 10)), (f3, zaJ k 4 (pick (u.1 10) i))])) 0 0 (va_A [(hm, .inr (7, [.ref p0, .ref c0, .ref n0, .ref b0, .ref e0, .ref f0, .ref l1, .ref l2, .ref l3, .ref l4, .ref l5, .int (u.2.1 11 2), .int (msk (u.2.2.2 1)), .long (u.1 9 0)])), (e0, .inr (4, [.ref g0, .ref q0, .ref e1, .ref e2, .ref e3, .ref e4, .ref e5, .ref e6, .ref e7, .int (u.2.1 11 3), .int (u.2.1 11 4), .int (u.2.1 11 5)])), (g0, .inr (0, [.ref g1, .ref g2, .ref g3, .ref g4, .ref g5])), (g1, zaJ k 4 (u.1 1)), (g5, zaG k 3 (gr3 g6 g7 g8)), (g6, zaJ k 3 (mrow0 (u.1 1))), (g7, zaJ k 3 (mrow1 (u.1 1))), (g8, zaJ k 3 (mrow2 (u.1 1))), (f0, .inr (1, [.ref f1, .ref f2, .ref f3, .int (nI (u.2.2.1 1))])), (f1, zaI k 30 (u.2.1 10)), (f2, zaJ k 120 (u.1 10)), (f3, zaJ k 4 wK)] sz) := by
  refine Met.ofW (cc := cX8_recall) (maxL := 3) (ret := (some .int)) (by decide) rfl ?_
  intro p e s m args below meth c s₁ B hml hv
  obtain ⟨rfl, hsz, hP, hK, hD0, hE⟩ := hv
  have hx := B.exec
  have hb := B.bytes
  have hr := B.returns
  have hts := atoms_spec (ws := wsX8_recall) B.pre
  have hown : s.vm.findClass RX8 = some m.cls := findClass_of_methodNamed B.named
  have hlocks := B.notSynchronized
  subst hsz
  have hD := hD0.self (sz := s.heap.size)
  delta zQi zB
  generalize hAe : va_A [(hm, .inr (7, [.ref p0, .ref c0, .ref n0, .ref b0, .ref e0, .ref f0, .ref l1, .ref l2, .ref l3, .ref l4, .ref l5, .int (u.2.1 11 2), .int (msk (u.2.2.2 1)), .long (u.1 9 0)])), (e0, .inr (4, [.ref g0, .ref q0, .ref e1, .ref e2, .ref e3, .ref e4, .ref e5, .ref e6, .ref e7, .int (u.2.1 11 3), .int (u.2.1 11 4), .int (u.2.1 11 5)])), (g0, .inr (0, [.ref g1, .ref g2, .ref g3, .ref g4, .ref g5])), (g1, zaJ k 4 (u.1 1)), (g5, zaG k 3 (gr3 g6 g7 g8)), (g6, zaJ k 3 (mrow0 (u.1 1))), (g7, zaJ k 3 (mrow1 (u.1 1))), (g8, zaJ k 3 (mrow2 (u.1 1))), (f0, .inr (1, [.ref f1, .ref f2, .ref f3, .int (nI (u.2.2.1 1))])), (f1, zaI k 30 (u.2.1 10)), (f2, zaJ k 120 (u.1 10)), (f3, zaJ k 4 wK)] s.heap.size = A at hD hE ⊢
  have hA : ∀ q : Nat, s.heap.size ≤ q → A q := fun q h => by rw [← hAe]; exact Or.inr h
  have hS : va_S A s.heap s.heap [] := va_S.rf
  have hl := lv_entry [.ref hm, .int a] (n := 3) (Nat.le_of_ble_eq_true rfl)
  rw [lg_entry_eq]
  generalize (lg_sl [.ref hm, .int a] ++ List.replicate (3 - (lg_sl [.ref hm, .int a]).length) Slot.unset).toArray = ls at hl ⊢
  have hl : lv_has ls 3 [(0, .ref hm), (1, .int a)] := hl
  have hl47 : (Cond.fieldLink RX8 47 "InertialReference" "shelf" "LInertialReference$AttitudeShelf;").before #[Value.ref hm, Value.int a] s = true := zw hts 1 rfl
  have hinX8 : ∀ w ∈ u_ws RX8 TX8 14, w ∈ wsX8_recall := fun w h => List.mem_cons_of_mem _ (List.mem_append_left _ (List.mem_append_left _ (List.mem_append_left _ (List.mem_append_right _ h))))
  have hl40 : (Cond.fieldLink RX8 40 "InertialReference" "estimator" "LInertialReference$Estimator;").before #[Value.ref hm, Value.int a] s = true := zw hts 2 rfl
  have hl196 : (Cond.fieldLinkNest RX8 196 "InertialReference$Estimator" "attitude" "LInertialReference$Attitude;" "InertialReference").before #[Value.ref hm, Value.int a] s = true := va_Nw.use rfl (zn_RX8_196 hE)
  have hinX4 : ∀ w ∈ u_ws RX4 TX4 12, w ∈ wsX8_recall := fun w h => List.mem_cons_of_mem _ (List.mem_append_left _ (List.mem_append_left _ (List.mem_append_right _ h)))
  refine lv_aload_n hx hb dX8_recall_0 rfl (lv_at hl 0 rfl) ?_
  refine va_get (D := D) (ci := 7) (v := .ref f0) (C := RX8) (T := TX8) (N := 14) hx hb hts hinX8 hown hK hP 0 rfl rfl 5 (Nat.le_of_ble_eq_true rfl) hl47 (fun _ h9 => h9) rfl dX8_recall_1 ?_
  refine lv_iload_n hx hb dX8_recall_4 rfl (lv_at hl 1 rfl) ?_
  refine z_calli0 (wc := [(f0, .inr (1, [.ref f1, .ref f2, .ref f3, .int (nI (u.2.2.1 1))])), (f1, zaI k 30 (u.2.1 10))]) (wr := [(hm, .inr (7, [.ref p0, .ref c0, .ref n0, .ref b0, .ref e0, .ref f0, .ref l1, .ref l2, .ref l3, .ref l4, .ref l5, .int (u.2.1 11 2), .int (msk (u.2.2.2 1)), .long (u.1 9 0)])), (e0, .inr (4, [.ref g0, .ref q0, .ref e1, .ref e2, .ref e3, .ref e4, .ref e5, .ref e6, .ref e7, .int (u.2.1 11 3), .int (u.2.1 11 4), .int (u.2.1 11 5)])), (g0, .inr (0, [.ref g1, .ref g2, .ref g3, .ref g4, .ref g5])), (g1, zaJ k 4 (u.1 1)), (g5, zaG k 3 (gr3 g6 g7 g8)), (g6, zaJ k 3 (mrow0 (u.1 1))), (g7, zaJ k 3 (mrow1 (u.1 1))), (g8, zaJ k 3 (mrow2 (u.1 1))), (f2, zaJ k 120 (u.1 10)), (f3, zaJ k 4 wK)]) (va_runV (As := [.int a]) (rest := []) ⟨hx, hb, hml, hown, hts⟩ (c_X1_placeOf_yes l D k s.heap.size f0 f1 f2 f3 (u.2.2.1 1) (u.2.1 10) (u.1 10) wK a i hn hi hi2 hi3) (cwV 1 hts gX8_recall_X1_placeOf rfl rfl rfl (by decide +kernel) ⟨Nat.le_of_ble_eq_true rfl, Nat.le_of_ble_eq_true rfl⟩) (z_preV (wc := [(f0, .inr (1, [.ref f1, .ref f2, .ref f3, .int (nI (u.2.2.1 1))])), (f1, zaI k 30 (u.2.1 10))]) 8 1 hP hD hK [8, 9] rfl rfl rfl rfl zb0 zp0) rfl rfl hl.1 rfl (lv_room (Nat.le_of_ble_eq_true rfl)) dX8_recall_5 ⟨Nat.zero_le _, Nat.zero_le _⟩) hP hD hS hA [8, 9] [0, 1, 2, 3, 4, 5, 6, 7, 10, 11] rfl rfl rfl (by decide) (fun w H locs hF hP hD hS => ?_)
  subst hF
  have hP : va_P D vwCl [(hm, .inr (7, [.ref p0, .ref c0, .ref n0, .ref b0, .ref e0, .ref f0, .ref l1, .ref l2, .ref l3, .ref l4, .ref l5, .int (u.2.1 11 2), .int (msk (u.2.2.2 1)), .long (u.1 9 0)])), (e0, .inr (4, [.ref g0, .ref q0, .ref e1, .ref e2, .ref e3, .ref e4, .ref e5, .ref e6, .ref e7, .int (u.2.1 11 3), .int (u.2.1 11 4), .int (u.2.1 11 5)])), (g0, .inr (0, [.ref g1, .ref g2, .ref g3, .ref g4, .ref g5])), (g1, zaJ k 4 (u.1 1)), (g5, zaG k 3 (gr3 g6 g7 g8)), (g6, zaJ k 3 (mrow0 (u.1 1))), (g7, zaJ k 3 (mrow1 (u.1 1))), (g8, zaJ k 3 (mrow2 (u.1 1))), (f2, zaJ k 120 (u.1 10)), (f3, zaJ k 4 wK), (f0, .inr (1, [.ref f1, .ref f2, .ref f3, .int (nI (u.2.2.1 1))])), (f1, zaI k 30 (u.2.1 10))] H := hP
  have hD : va_D A [(hm, .inr (7, [.ref p0, .ref c0, .ref n0, .ref b0, .ref e0, .ref f0, .ref l1, .ref l2, .ref l3, .ref l4, .ref l5, .int (u.2.1 11 2), .int (msk (u.2.2.2 1)), .long (u.1 9 0)])), (e0, .inr (4, [.ref g0, .ref q0, .ref e1, .ref e2, .ref e3, .ref e4, .ref e5, .ref e6, .ref e7, .int (u.2.1 11 3), .int (u.2.1 11 4), .int (u.2.1 11 5)])), (g0, .inr (0, [.ref g1, .ref g2, .ref g3, .ref g4, .ref g5])), (g1, zaJ k 4 (u.1 1)), (g5, zaG k 3 (gr3 g6 g7 g8)), (g6, zaJ k 3 (mrow0 (u.1 1))), (g7, zaJ k 3 (mrow1 (u.1 1))), (g8, zaJ k 3 (mrow2 (u.1 1))), (f2, zaJ k 120 (u.1 10)), (f3, zaJ k 4 wK), (f0, .inr (1, [.ref f1, .ref f2, .ref f3, .int (nI (u.2.2.1 1))])), (f1, zaI k 30 (u.2.1 10))] := hD
  refine lv_istore_n (lv' := [(2, .int (nI i)), (0, .ref hm), (1, .int a)]) hx hb dX8_recall_8 rfl hl (by decide) rfl (fun ls hl => ?_)
  refine lv_iload_n hx hb dX8_recall_9 rfl (lv_at hl 0 rfl) ?_
  refine lv_iconst (v := (-1)) hx hb dX8_recall_10 (by decide) ?_
  refine lv_icmp_ne (tgt := 16) hx hb dX8_recall_11 (by decide) (fun c => ?_) (fun c => absurd c (nI_nm1 (by omega)))
  refine lv_aload_n hx hb dX8_recall_16 rfl (lv_at hl 1 rfl) ?_
  refine va_get (D := D) (ci := 7) (v := .ref e0) (C := RX8) (T := TX8) (N := 14) hx hb hts hinX8 hown hK hP 0 rfl rfl 4 (Nat.le_of_ble_eq_true rfl) hl40 (fun _ h9 => h9) rfl dX8_recall_17 ?_
  refine va_getN (D := D) (ci := 4) (v := .ref g0) (C := RX4) (T := TX4) (N := 12) hx hb hts hinX4 hown hK hP 1 rfl rfl 0 (Nat.le_of_ble_eq_true rfl) hl196 (fun _ h9 => h9) rfl dX8_recall_20 ?_
  refine lv_aload_n hx hb dX8_recall_23 rfl (lv_at hl 1 rfl) ?_
  refine va_get (D := D) (ci := 7) (v := .ref f0) (C := RX8) (T := TX8) (N := 14) hx hb hts hinX8 hown hK hP 0 rfl rfl 5 (Nat.le_of_ble_eq_true rfl) hl47 (fun _ h9 => h9) rfl dX8_recall_24 ?_
  refine lv_iload_n hx hb dX8_recall_27 rfl (lv_at hl 0 rfl) ?_
  refine z_callr0 (wc := [(f0, .inr (1, [.ref f1, .ref f2, .ref f3, .int (nI (u.2.2.1 1))])), (f1, zaI k 30 (u.2.1 10)), (f2, zaJ k 120 (u.1 10)), (f3, zaJ k 4 wK)]) (wr := [(hm, .inr (7, [.ref p0, .ref c0, .ref n0, .ref b0, .ref e0, .ref f0, .ref l1, .ref l2, .ref l3, .ref l4, .ref l5, .int (u.2.1 11 2), .int (msk (u.2.2.2 1)), .long (u.1 9 0)])), (e0, .inr (4, [.ref g0, .ref q0, .ref e1, .ref e2, .ref e3, .ref e4, .ref e5, .ref e6, .ref e7, .int (u.2.1 11 3), .int (u.2.1 11 4), .int (u.2.1 11 5)])), (g0, .inr (0, [.ref g1, .ref g2, .ref g3, .ref g4, .ref g5])), (g1, zaJ k 4 (u.1 1)), (g5, zaG k 3 (gr3 g6 g7 g8)), (g6, zaJ k 3 (mrow0 (u.1 1))), (g7, zaJ k 3 (mrow1 (u.1 1))), (g8, zaJ k 3 (mrow2 (u.1 1)))]) (va_runV (As := [.int (nI i)]) (rest := [.ref g0]) ⟨hx, hb, hml, hown, hts⟩ (c_X1_at l D k H.size f0 f1 f2 f3 (u.2.2.1 1) (u.2.1 10) (u.1 10) wK i hn hi) (cwV 1 hts gX8_recall_X1_at rfl rfl rfl (by decide +kernel) ⟨Nat.le_of_ble_eq_true rfl, Nat.le_of_ble_eq_true rfl⟩) (z_preV (wc := [(f0, .inr (1, [.ref f1, .ref f2, .ref f3, .int (nI (u.2.2.1 1))])), (f1, zaI k 30 (u.2.1 10)), (f2, zaJ k 120 (u.1 10)), (f3, zaJ k 4 wK)]) 10 1 hP hD hK [10, 11, 8, 9] rfl rfl rfl rfl zb0 zp0) rfl rfl hl.1 rfl (lv_room (Nat.le_of_ble_eq_true rfl)) dX8_recall_28 ⟨Nat.zero_le _, Nat.zero_le _⟩) hP hD hS hA [10, 11, 8, 9] [0, 1, 2, 3, 4, 5, 6, 7] rfl rfl rfl (by decide) (fun w H locs hF hP hD hS => ?_)
  subst hF
  have hP : va_P D vwCl [(hm, .inr (7, [.ref p0, .ref c0, .ref n0, .ref b0, .ref e0, .ref f0, .ref l1, .ref l2, .ref l3, .ref l4, .ref l5, .int (u.2.1 11 2), .int (msk (u.2.2.2 1)), .long (u.1 9 0)])), (e0, .inr (4, [.ref g0, .ref q0, .ref e1, .ref e2, .ref e3, .ref e4, .ref e5, .ref e6, .ref e7, .int (u.2.1 11 3), .int (u.2.1 11 4), .int (u.2.1 11 5)])), (g0, .inr (0, [.ref g1, .ref g2, .ref g3, .ref g4, .ref g5])), (g1, zaJ k 4 (u.1 1)), (g5, zaG k 3 (gr3 g6 g7 g8)), (g6, zaJ k 3 (mrow0 (u.1 1))), (g7, zaJ k 3 (mrow1 (u.1 1))), (g8, zaJ k 3 (mrow2 (u.1 1))), (f0, .inr (1, [.ref f1, .ref f2, .ref f3, .int (nI (u.2.2.1 1))])), (f1, zaI k 30 (u.2.1 10)), (f2, zaJ k 120 (u.1 10)), (f3, zaJ k 4 (pick (u.1 10) i))] H := hP
  have hD : va_D A [(hm, .inr (7, [.ref p0, .ref c0, .ref n0, .ref b0, .ref e0, .ref f0, .ref l1, .ref l2, .ref l3, .ref l4, .ref l5, .int (u.2.1 11 2), .int (msk (u.2.2.2 1)), .long (u.1 9 0)])), (e0, .inr (4, [.ref g0, .ref q0, .ref e1, .ref e2, .ref e3, .ref e4, .ref e5, .ref e6, .ref e7, .int (u.2.1 11 3), .int (u.2.1 11 4), .int (u.2.1 11 5)])), (g0, .inr (0, [.ref g1, .ref g2, .ref g3, .ref g4, .ref g5])), (g1, zaJ k 4 (u.1 1)), (g5, zaG k 3 (gr3 g6 g7 g8)), (g6, zaJ k 3 (mrow0 (u.1 1))), (g7, zaJ k 3 (mrow1 (u.1 1))), (g8, zaJ k 3 (mrow2 (u.1 1))), (f0, .inr (1, [.ref f1, .ref f2, .ref f3, .int (nI (u.2.2.1 1))])), (f1, zaI k 30 (u.2.1 10)), (f2, zaJ k 120 (u.1 10)), (f3, zaJ k 4 (pick (u.1 10) i))] := hD
  refine z_callv0 (wc := [(g0, .inr (0, [.ref g1, .ref g2, .ref g3, .ref g4, .ref g5])), (g1, zaJ k 4 (u.1 1)), (g5, zaG k 3 (gr3 g6 g7 g8)), (g6, zaJ k 3 (mrow0 (u.1 1))), (g7, zaJ k 3 (mrow1 (u.1 1))), (g8, zaJ k 3 (mrow2 (u.1 1))), (f3, zaJ k 4 (pick (u.1 10) i))]) (wr := [(hm, .inr (7, [.ref p0, .ref c0, .ref n0, .ref b0, .ref e0, .ref f0, .ref l1, .ref l2, .ref l3, .ref l4, .ref l5, .int (u.2.1 11 2), .int (msk (u.2.2.2 1)), .long (u.1 9 0)])), (e0, .inr (4, [.ref g0, .ref q0, .ref e1, .ref e2, .ref e3, .ref e4, .ref e5, .ref e6, .ref e7, .int (u.2.1 11 3), .int (u.2.1 11 4), .int (u.2.1 11 5)])), (f0, .inr (1, [.ref f1, .ref f2, .ref f3, .int (nI (u.2.2.1 1))])), (f1, zaI k 30 (u.2.1 10)), (f2, zaJ k 120 (u.1 10))]) (va_runV (As := [.ref f3]) (rest := []) ⟨hx, hb, hml, hown, hts⟩ (c_X0_set l D k H.size g0 g1 g2 g3 g4 g5 g6 g7 g8 f3 (u.1 1) (mrow0 (u.1 1)) (mrow1 (u.1 1)) (mrow2 (u.1 1)) (pick (u.1 10) i)) (cwV 1 hts gX8_recall_X0_set rfl rfl rfl (by decide +kernel) ⟨Nat.le_of_ble_eq_true rfl, Nat.le_of_ble_eq_true rfl⟩) (z_preV (wc := [(g0, .inr (0, [.ref g1, .ref g2, .ref g3, .ref g4, .ref g5])), (g1, zaJ k 4 (u.1 1)), (g5, zaG k 3 (gr3 g6 g7 g8)), (g6, zaJ k 3 (mrow0 (u.1 1))), (g7, zaJ k 3 (mrow1 (u.1 1))), (g8, zaJ k 3 (mrow2 (u.1 1))), (f3, zaJ k 4 (pick (u.1 10) i))]) 2 0 hP hD hK [2, 3, 4, 5, 6, 7, 11] rfl rfl rfl rfl zb0 zp0) rfl rfl hl.1 rfl (lv_room (Nat.le_of_ble_eq_true rfl)) dX8_recall_31 ⟨Nat.zero_le _, Nat.zero_le _⟩) hP hD hS hA [2, 3, 4, 5, 6, 7, 11] [0, 1, 8, 9, 10] rfl rfl rfl (by decide) (fun w H locs hF hP hD hS => ?_)
  subst hF
  have hP : va_P D vwCl [(hm, .inr (7, [.ref p0, .ref c0, .ref n0, .ref b0, .ref e0, .ref f0, .ref l1, .ref l2, .ref l3, .ref l4, .ref l5, .int (u.2.1 11 2), .int (msk (u.2.2.2 1)), .long (u.1 9 0)])), (e0, .inr (4, [.ref g0, .ref q0, .ref e1, .ref e2, .ref e3, .ref e4, .ref e5, .ref e6, .ref e7, .int (u.2.1 11 3), .int (u.2.1 11 4), .int (u.2.1 11 5)])), (f0, .inr (1, [.ref f1, .ref f2, .ref f3, .int (nI (u.2.2.1 1))])), (f1, zaI k 30 (u.2.1 10)), (f2, zaJ k 120 (u.1 10)), (g0, .inr (0, [.ref g1, .ref g2, .ref g3, .ref g4, .ref g5])), (g1, zaJ k 4 (pick (u.1 10) i)), (g5, zaG k 3 (gr3 g6 g7 g8)), (g6, zaJ k 3 (mrow0 (pick (u.1 10) i))), (g7, zaJ k 3 (mrow1 (pick (u.1 10) i))), (g8, zaJ k 3 (mrow2 (pick (u.1 10) i))), (f3, zaJ k 4 (pick (u.1 10) i))] H := hP
  have hD : va_D A [(hm, .inr (7, [.ref p0, .ref c0, .ref n0, .ref b0, .ref e0, .ref f0, .ref l1, .ref l2, .ref l3, .ref l4, .ref l5, .int (u.2.1 11 2), .int (msk (u.2.2.2 1)), .long (u.1 9 0)])), (e0, .inr (4, [.ref g0, .ref q0, .ref e1, .ref e2, .ref e3, .ref e4, .ref e5, .ref e6, .ref e7, .int (u.2.1 11 3), .int (u.2.1 11 4), .int (u.2.1 11 5)])), (f0, .inr (1, [.ref f1, .ref f2, .ref f3, .int (nI (u.2.2.1 1))])), (f1, zaI k 30 (u.2.1 10)), (f2, zaJ k 120 (u.1 10)), (g0, .inr (0, [.ref g1, .ref g2, .ref g3, .ref g4, .ref g5])), (g1, zaJ k 4 (pick (u.1 10) i)), (g5, zaG k 3 (gr3 g6 g7 g8)), (g6, zaJ k 3 (mrow0 (pick (u.1 10) i))), (g7, zaJ k 3 (mrow1 (pick (u.1 10) i))), (g8, zaJ k 3 (mrow2 (pick (u.1 10) i))), (f3, zaJ k 4 (pick (u.1 10) i))] := hD
  refine lv_iconst (v := 0) hx hb dX8_recall_34 (by decide) ?_
  have hP9 := hP.sub (ws' := [(hm, .inr (7, [.ref p0, .ref c0, .ref n0, .ref b0, .ref e0, .ref f0, .ref l1, .ref l2, .ref l3, .ref l4, .ref l5, .int (u.2.1 11 2), .int (msk (u.2.2.2 1)), .long (u.1 9 0)])), (e0, .inr (4, [.ref g0, .ref q0, .ref e1, .ref e2, .ref e3, .ref e4, .ref e5, .ref e6, .ref e7, .int (u.2.1 11 3), .int (u.2.1 11 4), .int (u.2.1 11 5)])), (g0, .inr (0, [.ref g1, .ref g2, .ref g3, .ref g4, .ref g5])), (g1, zaJ k 4 (pick (u.1 10) i)), (g5, zaG k 3 (gr3 g6 g7 g8)), (g6, zaJ k 3 (mrow0 (pick (u.1 10) i))), (g7, zaJ k 3 (mrow1 (pick (u.1 10) i))), (g8, zaJ k 3 (mrow2 (pick (u.1 10) i))), (f0, .inr (1, [.ref f1, .ref f2, .ref f3, .int (nI (u.2.2.1 1))])), (f1, zaI k 30 (u.2.1 10)), (f2, zaJ k 120 (u.1 10)), (f3, zaJ k 4 (pick (u.1 10) i))]) [0, 1, 5, 6, 7, 8, 9, 10, 2, 3, 4, 11] rfl
  have hD9 := hD.sub (ws' := [(hm, .inr (7, [.ref p0, .ref c0, .ref n0, .ref b0, .ref e0, .ref f0, .ref l1, .ref l2, .ref l3, .ref l4, .ref l5, .int (u.2.1 11 2), .int (msk (u.2.2.2 1)), .long (u.1 9 0)])), (e0, .inr (4, [.ref g0, .ref q0, .ref e1, .ref e2, .ref e3, .ref e4, .ref e5, .ref e6, .ref e7, .int (u.2.1 11 3), .int (u.2.1 11 4), .int (u.2.1 11 5)])), (g0, .inr (0, [.ref g1, .ref g2, .ref g3, .ref g4, .ref g5])), (g1, zaJ k 4 (pick (u.1 10) i)), (g5, zaG k 3 (gr3 g6 g7 g8)), (g6, zaJ k 3 (mrow0 (pick (u.1 10) i))), (g7, zaJ k 3 (mrow1 (pick (u.1 10) i))), (g8, zaJ k 3 (mrow2 (pick (u.1 10) i))), (f0, .inr (1, [.ref f1, .ref f2, .ref f3, .int (nI (u.2.2.1 1))])), (f1, zaI k 30 (u.2.1 10)), (f2, zaJ k 120 (u.1 10)), (f3, zaJ k 4 (pick (u.1 10) i))]) [0, 1, 5, 6, 7, 8, 9, 10, 2, 3, 4, 11] (by decide) rfl
  exact W.iret (v := 0) hx hb hr (fun t9 ht9 hW9 => ⟨⟨0, [(hm, .inr (7, [.ref p0, .ref c0, .ref n0, .ref b0, .ref e0, .ref f0, .ref l1, .ref l2, .ref l3, .ref l4, .ref l5, .int (u.2.1 11 2), .int (msk (u.2.2.2 1)), .long (u.1 9 0)])), (e0, .inr (4, [.ref g0, .ref q0, .ref e1, .ref e2, .ref e3, .ref e4, .ref e5, .ref e6, .ref e7, .int (u.2.1 11 3), .int (u.2.1 11 4), .int (u.2.1 11 5)])), (g0, .inr (0, [.ref g1, .ref g2, .ref g3, .ref g4, .ref g5])), (g1, zaJ k 4 (pick (u.1 10) i)), (g5, zaG k 3 (gr3 g6 g7 g8)), (g6, zaJ k 3 (mrow0 (pick (u.1 10) i))), (g7, zaJ k 3 (mrow1 (pick (u.1 10) i))), (g8, zaJ k 3 (mrow2 (pick (u.1 10) i))), (f0, .inr (1, [.ref f1, .ref f2, .ref f3, .int (nI (u.2.2.1 1))])), (f1, zaI k 30 (u.2.1 10)), (f2, zaJ k 120 (u.1 10)), (f3, zaJ k 4 (pick (u.1 10) i))], rfl, ⟨rfl, rfl⟩, by rw [ht9]; exact hP9, hD9⟩, hS.F ht9⟩) hS.2.2 dX8_recall_35
set_option maxHeartbeats 4000000 in
set_option maxRecDepth 100000 in
theorem c_X8_recall_no (l : Launch) (D : va_G) (k : Nat → ClassId) (sz : Nat) (hm p0 c0 n0 b0 e0 f0 f1 f2 f3 l1 l2 l3 l4 l5 : Nat) (u : zS) (a : Int32) (hn : u.2.2.1 1 ≤ 30) (hi3 : ∀ j, j < u.2.2.1 1 → ¬ u.2.1 10 j = a) : Met l yX8_recall wsX8_recall ({ frames := 1, cells := 0, slots := 0, locals := 22 } : Room) (va_Pc [.ref hm, .int a] (zPre D k [(hm, .inr (7, [.ref p0, .ref c0, .ref n0, .ref b0, .ref e0, .ref f0, .ref l1, .ref l2, .ref l3, .ref l4, .ref l5, .int (u.2.1 11 2), .int (msk (u.2.2.2 1)), .long (u.1 9 0)])), (f0, .inr (1, [.ref f1, .ref f2, .ref f3, .int (nI (u.2.2.1 1))])), (f1, zaI k 30 (u.2.1 10))] sz zX0)) (zQi D [(hm, .inr (7, [.ref p0, .ref c0, .ref n0, .ref b0, .ref e0, .ref f0, .ref l1, .ref l2, .ref l3, .ref l4, .ref l5, .int (u.2.1 11 2), .int (msk (u.2.2.2 1)), .long (u.1 9 0)])), (f0, .inr (1, [.ref f1, .ref f2, .ref f3, .int (nI (u.2.2.1 1))])), (f1, zaI k 30 (u.2.1 10))] sz (-1) (fun w : va_W => w = [(hm, .inr (7, [.ref p0, .ref c0, .ref n0, .ref b0, .ref e0, .ref f0, .ref l1, .ref l2, .ref l3, .ref l4, .ref l5, .int (u.2.1 11 2), .int (msk (u.2.2.2 1)), .long (u.1 9 0)])), (f0, .inr (1, [.ref f1, .ref f2, .ref f3, .int (nI (u.2.2.1 1))])), (f1, zaI k 30 (u.2.1 10))])) 0 0 (va_A [(hm, .inr (7, [.ref p0, .ref c0, .ref n0, .ref b0, .ref e0, .ref f0, .ref l1, .ref l2, .ref l3, .ref l4, .ref l5, .int (u.2.1 11 2), .int (msk (u.2.2.2 1)), .long (u.1 9 0)])), (f0, .inr (1, [.ref f1, .ref f2, .ref f3, .int (nI (u.2.2.1 1))])), (f1, zaI k 30 (u.2.1 10))] sz) := by
  refine Met.ofW (cc := cX8_recall) (maxL := 3) (ret := (some .int)) (by decide) rfl ?_
  intro p e s m args below meth c s₁ B hml hv
  obtain ⟨rfl, hsz, hP, hK, hD0, hE⟩ := hv
  have hx := B.exec
  have hb := B.bytes
  have hr := B.returns
  have hts := atoms_spec (ws := wsX8_recall) B.pre
  have hown : s.vm.findClass RX8 = some m.cls := findClass_of_methodNamed B.named
  have hlocks := B.notSynchronized
  subst hsz
  have hD := hD0.self (sz := s.heap.size)
  delta zQi zB
  generalize hAe : va_A [(hm, .inr (7, [.ref p0, .ref c0, .ref n0, .ref b0, .ref e0, .ref f0, .ref l1, .ref l2, .ref l3, .ref l4, .ref l5, .int (u.2.1 11 2), .int (msk (u.2.2.2 1)), .long (u.1 9 0)])), (f0, .inr (1, [.ref f1, .ref f2, .ref f3, .int (nI (u.2.2.1 1))])), (f1, zaI k 30 (u.2.1 10))] s.heap.size = A at hD hE ⊢
  have hA : ∀ q : Nat, s.heap.size ≤ q → A q := fun q h => by rw [← hAe]; exact Or.inr h
  have hS : va_S A s.heap s.heap [] := va_S.rf
  have hl := lv_entry [.ref hm, .int a] (n := 3) (Nat.le_of_ble_eq_true rfl)
  rw [lg_entry_eq]
  generalize (lg_sl [.ref hm, .int a] ++ List.replicate (3 - (lg_sl [.ref hm, .int a]).length) Slot.unset).toArray = ls at hl ⊢
  have hl : lv_has ls 3 [(0, .ref hm), (1, .int a)] := hl
  have hl47 : (Cond.fieldLink RX8 47 "InertialReference" "shelf" "LInertialReference$AttitudeShelf;").before #[Value.ref hm, Value.int a] s = true := zw hts 1 rfl
  have hinX8 : ∀ w ∈ u_ws RX8 TX8 14, w ∈ wsX8_recall := fun w h => List.mem_cons_of_mem _ (List.mem_append_left _ (List.mem_append_left _ (List.mem_append_left _ (List.mem_append_right _ h))))
  refine lv_aload_n hx hb dX8_recall_0 rfl (lv_at hl 0 rfl) ?_
  refine va_get (D := D) (ci := 7) (v := .ref f0) (C := RX8) (T := TX8) (N := 14) hx hb hts hinX8 hown hK hP 0 rfl rfl 5 (Nat.le_of_ble_eq_true rfl) hl47 (fun _ h9 => h9) rfl dX8_recall_1 ?_
  refine lv_iload_n hx hb dX8_recall_4 rfl (lv_at hl 1 rfl) ?_
  refine z_calli0 (wc := [(f0, .inr (1, [.ref f1, .ref f2, .ref f3, .int (nI (u.2.2.1 1))])), (f1, zaI k 30 (u.2.1 10))]) (wr := [(hm, .inr (7, [.ref p0, .ref c0, .ref n0, .ref b0, .ref e0, .ref f0, .ref l1, .ref l2, .ref l3, .ref l4, .ref l5, .int (u.2.1 11 2), .int (msk (u.2.2.2 1)), .long (u.1 9 0)]))]) (va_runV (As := [.int a]) (rest := []) ⟨hx, hb, hml, hown, hts⟩ (c_X1_placeOf_no l D k s.heap.size f0 f1 f2 f3 (u.2.2.1 1) (u.2.1 10) (fun _ => 0) (fun _ => 0) a hn hi3) (cwV 1 hts gX8_recall_X1_placeOf rfl rfl rfl (by decide +kernel) ⟨Nat.le_of_ble_eq_true rfl, Nat.le_of_ble_eq_true rfl⟩) (z_preV (wc := [(f0, .inr (1, [.ref f1, .ref f2, .ref f3, .int (nI (u.2.2.1 1))])), (f1, zaI k 30 (u.2.1 10))]) 1 1 hP hD hK [1, 2] rfl rfl rfl rfl zb0 zp0) rfl rfl hl.1 rfl (lv_room (Nat.le_of_ble_eq_true rfl)) dX8_recall_5 ⟨Nat.zero_le _, Nat.zero_le _⟩) hP hD hS hA [1, 2] [0] rfl rfl rfl (by decide) (fun w H locs hF hP hD hS => ?_)
  subst hF
  have hP : va_P D vwCl [(hm, .inr (7, [.ref p0, .ref c0, .ref n0, .ref b0, .ref e0, .ref f0, .ref l1, .ref l2, .ref l3, .ref l4, .ref l5, .int (u.2.1 11 2), .int (msk (u.2.2.2 1)), .long (u.1 9 0)])), (f0, .inr (1, [.ref f1, .ref f2, .ref f3, .int (nI (u.2.2.1 1))])), (f1, zaI k 30 (u.2.1 10))] H := hP
  have hD : va_D A [(hm, .inr (7, [.ref p0, .ref c0, .ref n0, .ref b0, .ref e0, .ref f0, .ref l1, .ref l2, .ref l3, .ref l4, .ref l5, .int (u.2.1 11 2), .int (msk (u.2.2.2 1)), .long (u.1 9 0)])), (f0, .inr (1, [.ref f1, .ref f2, .ref f3, .int (nI (u.2.2.1 1))])), (f1, zaI k 30 (u.2.1 10))] := hD
  refine lv_istore_n (lv' := [(2, .int (-1)), (0, .ref hm), (1, .int a)]) hx hb dX8_recall_8 rfl hl (by decide) rfl (fun ls hl => ?_)
  refine lv_iload_n hx hb dX8_recall_9 rfl (lv_at hl 0 rfl) ?_
  refine lv_iconst (v := (-1)) hx hb dX8_recall_10 (by decide) ?_
  refine lv_icmp_ne (tgt := 16) hx hb dX8_recall_11 (by decide) (fun c => absurd c (by decide)) (fun _ => ?_)
  refine lv_iconst (v := (-1)) hx hb dX8_recall_14 (by decide) ?_
  have hP9 := hP.sub (ws' := [(hm, .inr (7, [.ref p0, .ref c0, .ref n0, .ref b0, .ref e0, .ref f0, .ref l1, .ref l2, .ref l3, .ref l4, .ref l5, .int (u.2.1 11 2), .int (msk (u.2.2.2 1)), .long (u.1 9 0)])), (f0, .inr (1, [.ref f1, .ref f2, .ref f3, .int (nI (u.2.2.1 1))])), (f1, zaI k 30 (u.2.1 10))]) [0, 1, 2] rfl
  have hD9 := hD.sub (ws' := [(hm, .inr (7, [.ref p0, .ref c0, .ref n0, .ref b0, .ref e0, .ref f0, .ref l1, .ref l2, .ref l3, .ref l4, .ref l5, .int (u.2.1 11 2), .int (msk (u.2.2.2 1)), .long (u.1 9 0)])), (f0, .inr (1, [.ref f1, .ref f2, .ref f3, .int (nI (u.2.2.1 1))])), (f1, zaI k 30 (u.2.1 10))]) [0, 1, 2] (by decide) rfl
  exact W.iret (v := (-1)) hx hb hr (fun t9 ht9 hW9 => ⟨⟨(-1), [(hm, .inr (7, [.ref p0, .ref c0, .ref n0, .ref b0, .ref e0, .ref f0, .ref l1, .ref l2, .ref l3, .ref l4, .ref l5, .int (u.2.1 11 2), .int (msk (u.2.2.2 1)), .long (u.1 9 0)])), (f0, .inr (1, [.ref f1, .ref f2, .ref f3, .int (nI (u.2.2.1 1))])), (f1, zaI k 30 (u.2.1 10))], rfl, ⟨rfl, rfl⟩, by rw [ht9]; exact hP9, hD9⟩, hS.F ht9⟩) hS.2.2 dX8_recall_15
set_option maxHeartbeats 4000000 in
set_option maxRecDepth 100000 in
theorem c_X8_forget_yes (l : Launch) (D : va_G) (k : Nat → ClassId) (sz : Nat) (hm p0 c0 n0 b0 e0 f0 f1 f2 f3 l1 l2 l3 l4 l5 : Nat) (u : zS) (wK : Nat → Int64) (a : Int32) (i : Nat) (hn : u.2.2.1 1 ≤ 30) (hi : i < u.2.2.1 1) (hi2 : u.2.1 10 i = a) (hi3 : ∀ j, j < i → ¬ u.2.1 10 j = a) : Met l yX8_forget wsX8_forget ({ frames := 2, cells := 0, slots := 0, locals := 40 } : Room) (va_Pc [.ref hm, .int a] (zPre D k [(hm, .inr (7, [.ref p0, .ref c0, .ref n0, .ref b0, .ref e0, .ref f0, .ref l1, .ref l2, .ref l3, .ref l4, .ref l5, .int (u.2.1 11 2), .int (msk (u.2.2.2 1)), .long (u.1 9 0)])), (f0, .inr (1, [.ref f1, .ref f2, .ref f3, .int (nI (u.2.2.1 1))])), (f1, zaI k 30 (u.2.1 10)), (f2, zaJ k 120 (u.1 10)), (f3, zaJ k 4 wK)] sz zX0)) (zQi D [(hm, .inr (7, [.ref p0, .ref c0, .ref n0, .ref b0, .ref e0, .ref f0, .ref l1, .ref l2, .ref l3, .ref l4, .ref l5, .int (u.2.1 11 2), .int (msk (u.2.2.2 1)), .long (u.1 9 0)])), (f0, .inr (1, [.ref f1, .ref f2, .ref f3, .int (nI (u.2.2.1 1))])), (f1, zaI k 30 (u.2.1 10)), (f2, zaJ k 120 (u.1 10)), (f3, zaJ k 4 wK)] sz (nI (u.2.2.1 1 - 1)) (fun w : va_W => w = [(hm, .inr (7, [.ref p0, .ref c0, .ref n0, .ref b0, .ref e0, .ref f0, .ref l1, .ref l2, .ref l3, .ref l4, .ref l5, .int (u.2.1 11 2), .int (msk (u.2.2.2 1)), .long (u.1 9 0)])), (f0, .inr (1, [.ref f1, .ref f2, .ref f3, .int (nI (u.2.2.1 1 - 1))])), (f1, zaI k 30 (del (u.2.1 10) i (u.2.2.1 1))), (f2, zaJ k 120 (del4 (u.1 10) i (u.2.2.1 1))), (f3, zaJ k 4 wK)])) 0 0 (va_A [(hm, .inr (7, [.ref p0, .ref c0, .ref n0, .ref b0, .ref e0, .ref f0, .ref l1, .ref l2, .ref l3, .ref l4, .ref l5, .int (u.2.1 11 2), .int (msk (u.2.2.2 1)), .long (u.1 9 0)])), (f0, .inr (1, [.ref f1, .ref f2, .ref f3, .int (nI (u.2.2.1 1))])), (f1, zaI k 30 (u.2.1 10)), (f2, zaJ k 120 (u.1 10)), (f3, zaJ k 4 wK)] sz) := by
  refine Met.ofW (cc := cX8_forget) (maxL := 3) (ret := (some .int)) (by decide) rfl ?_
  intro p e s m args below meth c s₁ B hml hv
  obtain ⟨rfl, hsz, hP, hK, hD0, hE⟩ := hv
  have hx := B.exec
  have hb := B.bytes
  have hr := B.returns
  have hts := atoms_spec (ws := wsX8_forget) B.pre
  have hown : s.vm.findClass RX8 = some m.cls := findClass_of_methodNamed B.named
  have hlocks := B.notSynchronized
  subst hsz
  have hD := hD0.self (sz := s.heap.size)
  delta zQi zB
  generalize hAe : va_A [(hm, .inr (7, [.ref p0, .ref c0, .ref n0, .ref b0, .ref e0, .ref f0, .ref l1, .ref l2, .ref l3, .ref l4, .ref l5, .int (u.2.1 11 2), .int (msk (u.2.2.2 1)), .long (u.1 9 0)])), (f0, .inr (1, [.ref f1, .ref f2, .ref f3, .int (nI (u.2.2.1 1))])), (f1, zaI k 30 (u.2.1 10)), (f2, zaJ k 120 (u.1 10)), (f3, zaJ k 4 wK)] s.heap.size = A at hD hE ⊢
  have hA : ∀ q : Nat, s.heap.size ≤ q → A q := fun q h => by rw [← hAe]; exact Or.inr h
  have hS : va_S A s.heap s.heap [] := va_S.rf
  have hl := lv_entry [.ref hm, .int a] (n := 3) (Nat.le_of_ble_eq_true rfl)
  rw [lg_entry_eq]
  generalize (lg_sl [.ref hm, .int a] ++ List.replicate (3 - (lg_sl [.ref hm, .int a]).length) Slot.unset).toArray = ls at hl ⊢
  have hl : lv_has ls 3 [(0, .ref hm), (1, .int a)] := hl
  have hl47 : (Cond.fieldLink RX8 47 "InertialReference" "shelf" "LInertialReference$AttitudeShelf;").before #[Value.ref hm, Value.int a] s = true := zw hts 1 rfl
  have hinX8 : ∀ w ∈ u_ws RX8 TX8 14, w ∈ wsX8_forget := fun w h => List.mem_cons_of_mem _ (List.mem_append_left _ (List.mem_append_right _ h))
  refine lv_aload_n hx hb dX8_forget_0 rfl (lv_at hl 0 rfl) ?_
  refine va_get (D := D) (ci := 7) (v := .ref f0) (C := RX8) (T := TX8) (N := 14) hx hb hts hinX8 hown hK hP 0 rfl rfl 5 (Nat.le_of_ble_eq_true rfl) hl47 (fun _ h9 => h9) rfl dX8_forget_1 ?_
  refine lv_iload_n hx hb dX8_forget_4 rfl (lv_at hl 1 rfl) ?_
  refine z_calli0 (wc := [(f0, .inr (1, [.ref f1, .ref f2, .ref f3, .int (nI (u.2.2.1 1))])), (f1, zaI k 30 (u.2.1 10))]) (wr := [(hm, .inr (7, [.ref p0, .ref c0, .ref n0, .ref b0, .ref e0, .ref f0, .ref l1, .ref l2, .ref l3, .ref l4, .ref l5, .int (u.2.1 11 2), .int (msk (u.2.2.2 1)), .long (u.1 9 0)])), (f2, zaJ k 120 (u.1 10)), (f3, zaJ k 4 wK)]) (va_runV (As := [.int a]) (rest := []) ⟨hx, hb, hml, hown, hts⟩ (c_X1_placeOf_yes l D k s.heap.size f0 f1 f2 f3 (u.2.2.1 1) (u.2.1 10) (u.1 10) wK a i hn hi hi2 hi3) (cwV 1 hts gX8_forget_X1_placeOf rfl rfl rfl (by decide +kernel) ⟨Nat.le_of_ble_eq_true rfl, Nat.le_of_ble_eq_true rfl⟩) (z_preV (wc := [(f0, .inr (1, [.ref f1, .ref f2, .ref f3, .int (nI (u.2.2.1 1))])), (f1, zaI k 30 (u.2.1 10))]) 1 1 hP hD hK [1, 2] rfl rfl rfl rfl zb0 zp0) rfl rfl hl.1 rfl (lv_room (Nat.le_of_ble_eq_true rfl)) dX8_forget_5 ⟨Nat.zero_le _, Nat.zero_le _⟩) hP hD hS hA [1, 2] [0, 3, 4] rfl rfl rfl (by decide) (fun w H locs hF hP hD hS => ?_)
  subst hF
  have hP : va_P D vwCl [(hm, .inr (7, [.ref p0, .ref c0, .ref n0, .ref b0, .ref e0, .ref f0, .ref l1, .ref l2, .ref l3, .ref l4, .ref l5, .int (u.2.1 11 2), .int (msk (u.2.2.2 1)), .long (u.1 9 0)])), (f2, zaJ k 120 (u.1 10)), (f3, zaJ k 4 wK), (f0, .inr (1, [.ref f1, .ref f2, .ref f3, .int (nI (u.2.2.1 1))])), (f1, zaI k 30 (u.2.1 10))] H := hP
  have hD : va_D A [(hm, .inr (7, [.ref p0, .ref c0, .ref n0, .ref b0, .ref e0, .ref f0, .ref l1, .ref l2, .ref l3, .ref l4, .ref l5, .int (u.2.1 11 2), .int (msk (u.2.2.2 1)), .long (u.1 9 0)])), (f2, zaJ k 120 (u.1 10)), (f3, zaJ k 4 wK), (f0, .inr (1, [.ref f1, .ref f2, .ref f3, .int (nI (u.2.2.1 1))])), (f1, zaI k 30 (u.2.1 10))] := hD
  refine lv_istore_n (lv' := [(2, .int (nI i)), (0, .ref hm), (1, .int a)]) hx hb dX8_forget_8 rfl hl (by decide) rfl (fun ls hl => ?_)
  refine lv_iload_n hx hb dX8_forget_9 rfl (lv_at hl 0 rfl) ?_
  refine lv_iconst (v := (-1)) hx hb dX8_forget_10 (by decide) ?_
  refine lv_icmp_ne (tgt := 16) hx hb dX8_forget_11 (by decide) (fun c => ?_) (fun c => absurd c (nI_nm1 (by omega)))
  refine lv_aload_n hx hb dX8_forget_16 rfl (lv_at hl 1 rfl) ?_
  refine va_get (D := D) (ci := 7) (v := .ref f0) (C := RX8) (T := TX8) (N := 14) hx hb hts hinX8 hown hK hP 0 rfl rfl 5 (Nat.le_of_ble_eq_true rfl) hl47 (fun _ h9 => h9) rfl dX8_forget_17 ?_
  refine lv_iload_n hx hb dX8_forget_20 rfl (lv_at hl 0 rfl) ?_
  refine z_calli0 (wc := [(f0, .inr (1, [.ref f1, .ref f2, .ref f3, .int (nI (u.2.2.1 1))])), (f1, zaI k 30 (u.2.1 10)), (f2, zaJ k 120 (u.1 10)), (f3, zaJ k 4 wK)]) (wr := [(hm, .inr (7, [.ref p0, .ref c0, .ref n0, .ref b0, .ref e0, .ref f0, .ref l1, .ref l2, .ref l3, .ref l4, .ref l5, .int (u.2.1 11 2), .int (msk (u.2.2.2 1)), .long (u.1 9 0)]))]) (va_runV (As := [.int (nI i)]) (rest := []) ⟨hx, hb, hml, hown, hts⟩ (c_X1_remove l D k H.size f0 f1 f2 f3 (u.2.2.1 1) (u.2.1 10) (u.1 10) wK i hn hi) (cwV 1 hts gX8_forget_X1_remove rfl rfl rfl (by decide +kernel) ⟨Nat.le_of_ble_eq_true rfl, Nat.le_of_ble_eq_true rfl⟩) (z_preV (wc := [(f0, .inr (1, [.ref f1, .ref f2, .ref f3, .int (nI (u.2.2.1 1))])), (f1, zaI k 30 (u.2.1 10)), (f2, zaJ k 120 (u.1 10)), (f3, zaJ k 4 wK)]) 3 1 hP hD hK [3, 4, 1, 2] rfl rfl rfl rfl zb0 zp0) rfl rfl hl.1 rfl (lv_room (Nat.le_of_ble_eq_true rfl)) dX8_forget_21 ⟨Nat.zero_le _, Nat.zero_le _⟩) hP hD hS hA [3, 4, 1, 2] [0] rfl rfl rfl (by decide) (fun w H locs hF hP hD hS => ?_)
  subst hF
  have hP : va_P D vwCl [(hm, .inr (7, [.ref p0, .ref c0, .ref n0, .ref b0, .ref e0, .ref f0, .ref l1, .ref l2, .ref l3, .ref l4, .ref l5, .int (u.2.1 11 2), .int (msk (u.2.2.2 1)), .long (u.1 9 0)])), (f0, .inr (1, [.ref f1, .ref f2, .ref f3, .int (nI ((u.2.2.1 1) - 1))])), (f1, zaI k 30 (del (u.2.1 10) i (u.2.2.1 1))), (f2, zaJ k 120 (del4 (u.1 10) i (u.2.2.1 1))), (f3, zaJ k 4 wK)] H := hP
  have hD : va_D A [(hm, .inr (7, [.ref p0, .ref c0, .ref n0, .ref b0, .ref e0, .ref f0, .ref l1, .ref l2, .ref l3, .ref l4, .ref l5, .int (u.2.1 11 2), .int (msk (u.2.2.2 1)), .long (u.1 9 0)])), (f0, .inr (1, [.ref f1, .ref f2, .ref f3, .int (nI ((u.2.2.1 1) - 1))])), (f1, zaI k 30 (del (u.2.1 10) i (u.2.2.1 1))), (f2, zaJ k 120 (del4 (u.1 10) i (u.2.2.1 1))), (f3, zaJ k 4 wK)] := hD
  have hP := z_congO hP 1 rfl (fs2 := [.ref f1, .ref f2, .ref f3, .int (nI (u.2.2.1 1 - 1))]) (by rfl) (ws' := [(hm, .inr (7, [.ref p0, .ref c0, .ref n0, .ref b0, .ref e0, .ref f0, .ref l1, .ref l2, .ref l3, .ref l4, .ref l5, .int (u.2.1 11 2), .int (msk (u.2.2.2 1)), .long (u.1 9 0)])), (f0, .inr (1, [.ref f1, .ref f2, .ref f3, .int (nI (u.2.2.1 1 - 1))])), (f1, zaI k 30 (del (u.2.1 10) i (u.2.2.1 1))), (f2, zaJ k 120 (del4 (u.1 10) i (u.2.2.1 1))), (f3, zaJ k 4 wK)]) rfl
  have hD := z_congDO hD 1 rfl (fs2 := [.ref f1, .ref f2, .ref f3, .int (nI (u.2.2.1 1 - 1))]) (ws' := [(hm, .inr (7, [.ref p0, .ref c0, .ref n0, .ref b0, .ref e0, .ref f0, .ref l1, .ref l2, .ref l3, .ref l4, .ref l5, .int (u.2.1 11 2), .int (msk (u.2.2.2 1)), .long (u.1 9 0)])), (f0, .inr (1, [.ref f1, .ref f2, .ref f3, .int (nI (u.2.2.1 1 - 1))])), (f1, zaI k 30 (del (u.2.1 10) i (u.2.2.1 1))), (f2, zaJ k 120 (del4 (u.1 10) i (u.2.2.1 1))), (f3, zaJ k 4 wK)]) rfl
  have hP9 := hP.sub (ws' := [(hm, .inr (7, [.ref p0, .ref c0, .ref n0, .ref b0, .ref e0, .ref f0, .ref l1, .ref l2, .ref l3, .ref l4, .ref l5, .int (u.2.1 11 2), .int (msk (u.2.2.2 1)), .long (u.1 9 0)])), (f0, .inr (1, [.ref f1, .ref f2, .ref f3, .int (nI (u.2.2.1 1 - 1))])), (f1, zaI k 30 (del (u.2.1 10) i (u.2.2.1 1))), (f2, zaJ k 120 (del4 (u.1 10) i (u.2.2.1 1))), (f3, zaJ k 4 wK)]) [0, 1, 2, 3, 4] rfl
  have hD9 := hD.sub (ws' := [(hm, .inr (7, [.ref p0, .ref c0, .ref n0, .ref b0, .ref e0, .ref f0, .ref l1, .ref l2, .ref l3, .ref l4, .ref l5, .int (u.2.1 11 2), .int (msk (u.2.2.2 1)), .long (u.1 9 0)])), (f0, .inr (1, [.ref f1, .ref f2, .ref f3, .int (nI (u.2.2.1 1 - 1))])), (f1, zaI k 30 (del (u.2.1 10) i (u.2.2.1 1))), (f2, zaJ k 120 (del4 (u.1 10) i (u.2.2.1 1))), (f3, zaJ k 4 wK)]) [0, 1, 2, 3, 4] (by decide) rfl
  exact W.iret (v := nI ((u.2.2.1 1) - 1)) hx hb hr (fun t9 ht9 hW9 => ⟨⟨(nI ((u.2.2.1 1) - 1)), [(hm, .inr (7, [.ref p0, .ref c0, .ref n0, .ref b0, .ref e0, .ref f0, .ref l1, .ref l2, .ref l3, .ref l4, .ref l5, .int (u.2.1 11 2), .int (msk (u.2.2.2 1)), .long (u.1 9 0)])), (f0, .inr (1, [.ref f1, .ref f2, .ref f3, .int (nI (u.2.2.1 1 - 1))])), (f1, zaI k 30 (del (u.2.1 10) i (u.2.2.1 1))), (f2, zaJ k 120 (del4 (u.1 10) i (u.2.2.1 1))), (f3, zaJ k 4 wK)], rfl, ⟨by rfl, rfl⟩, by rw [ht9]; exact hP9, hD9⟩, hS.F ht9⟩) hS.2.2 dX8_forget_24
set_option maxHeartbeats 4000000 in
set_option maxRecDepth 100000 in
theorem c_X8_forget_no (l : Launch) (D : va_G) (k : Nat → ClassId) (sz : Nat) (hm p0 c0 n0 b0 e0 f0 f1 f2 f3 l1 l2 l3 l4 l5 : Nat) (u : zS) (a : Int32) (hn : u.2.2.1 1 ≤ 30) (hi3 : ∀ j, j < u.2.2.1 1 → ¬ u.2.1 10 j = a) : Met l yX8_forget wsX8_forget ({ frames := 1, cells := 0, slots := 0, locals := 22 } : Room) (va_Pc [.ref hm, .int a] (zPre D k [(hm, .inr (7, [.ref p0, .ref c0, .ref n0, .ref b0, .ref e0, .ref f0, .ref l1, .ref l2, .ref l3, .ref l4, .ref l5, .int (u.2.1 11 2), .int (msk (u.2.2.2 1)), .long (u.1 9 0)])), (f0, .inr (1, [.ref f1, .ref f2, .ref f3, .int (nI (u.2.2.1 1))])), (f1, zaI k 30 (u.2.1 10))] sz zX0)) (zQi D [(hm, .inr (7, [.ref p0, .ref c0, .ref n0, .ref b0, .ref e0, .ref f0, .ref l1, .ref l2, .ref l3, .ref l4, .ref l5, .int (u.2.1 11 2), .int (msk (u.2.2.2 1)), .long (u.1 9 0)])), (f0, .inr (1, [.ref f1, .ref f2, .ref f3, .int (nI (u.2.2.1 1))])), (f1, zaI k 30 (u.2.1 10))] sz (-1) (fun w : va_W => w = [(hm, .inr (7, [.ref p0, .ref c0, .ref n0, .ref b0, .ref e0, .ref f0, .ref l1, .ref l2, .ref l3, .ref l4, .ref l5, .int (u.2.1 11 2), .int (msk (u.2.2.2 1)), .long (u.1 9 0)])), (f0, .inr (1, [.ref f1, .ref f2, .ref f3, .int (nI (u.2.2.1 1))])), (f1, zaI k 30 (u.2.1 10))])) 0 0 (va_A [(hm, .inr (7, [.ref p0, .ref c0, .ref n0, .ref b0, .ref e0, .ref f0, .ref l1, .ref l2, .ref l3, .ref l4, .ref l5, .int (u.2.1 11 2), .int (msk (u.2.2.2 1)), .long (u.1 9 0)])), (f0, .inr (1, [.ref f1, .ref f2, .ref f3, .int (nI (u.2.2.1 1))])), (f1, zaI k 30 (u.2.1 10))] sz) := by
  refine Met.ofW (cc := cX8_forget) (maxL := 3) (ret := (some .int)) (by decide) rfl ?_
  intro p e s m args below meth c s₁ B hml hv
  obtain ⟨rfl, hsz, hP, hK, hD0, hE⟩ := hv
  have hx := B.exec
  have hb := B.bytes
  have hr := B.returns
  have hts := atoms_spec (ws := wsX8_forget) B.pre
  have hown : s.vm.findClass RX8 = some m.cls := findClass_of_methodNamed B.named
  have hlocks := B.notSynchronized
  subst hsz
  have hD := hD0.self (sz := s.heap.size)
  delta zQi zB
  generalize hAe : va_A [(hm, .inr (7, [.ref p0, .ref c0, .ref n0, .ref b0, .ref e0, .ref f0, .ref l1, .ref l2, .ref l3, .ref l4, .ref l5, .int (u.2.1 11 2), .int (msk (u.2.2.2 1)), .long (u.1 9 0)])), (f0, .inr (1, [.ref f1, .ref f2, .ref f3, .int (nI (u.2.2.1 1))])), (f1, zaI k 30 (u.2.1 10))] s.heap.size = A at hD hE ⊢
  have hA : ∀ q : Nat, s.heap.size ≤ q → A q := fun q h => by rw [← hAe]; exact Or.inr h
  have hS : va_S A s.heap s.heap [] := va_S.rf
  have hl := lv_entry [.ref hm, .int a] (n := 3) (Nat.le_of_ble_eq_true rfl)
  rw [lg_entry_eq]
  generalize (lg_sl [.ref hm, .int a] ++ List.replicate (3 - (lg_sl [.ref hm, .int a]).length) Slot.unset).toArray = ls at hl ⊢
  have hl : lv_has ls 3 [(0, .ref hm), (1, .int a)] := hl
  have hl47 : (Cond.fieldLink RX8 47 "InertialReference" "shelf" "LInertialReference$AttitudeShelf;").before #[Value.ref hm, Value.int a] s = true := zw hts 1 rfl
  have hinX8 : ∀ w ∈ u_ws RX8 TX8 14, w ∈ wsX8_forget := fun w h => List.mem_cons_of_mem _ (List.mem_append_left _ (List.mem_append_right _ h))
  refine lv_aload_n hx hb dX8_forget_0 rfl (lv_at hl 0 rfl) ?_
  refine va_get (D := D) (ci := 7) (v := .ref f0) (C := RX8) (T := TX8) (N := 14) hx hb hts hinX8 hown hK hP 0 rfl rfl 5 (Nat.le_of_ble_eq_true rfl) hl47 (fun _ h9 => h9) rfl dX8_forget_1 ?_
  refine lv_iload_n hx hb dX8_forget_4 rfl (lv_at hl 1 rfl) ?_
  refine z_calli0 (wc := [(f0, .inr (1, [.ref f1, .ref f2, .ref f3, .int (nI (u.2.2.1 1))])), (f1, zaI k 30 (u.2.1 10))]) (wr := [(hm, .inr (7, [.ref p0, .ref c0, .ref n0, .ref b0, .ref e0, .ref f0, .ref l1, .ref l2, .ref l3, .ref l4, .ref l5, .int (u.2.1 11 2), .int (msk (u.2.2.2 1)), .long (u.1 9 0)]))]) (va_runV (As := [.int a]) (rest := []) ⟨hx, hb, hml, hown, hts⟩ (c_X1_placeOf_no l D k s.heap.size f0 f1 f2 f3 (u.2.2.1 1) (u.2.1 10) (fun _ => 0) (fun _ => 0) a hn hi3) (cwV 1 hts gX8_forget_X1_placeOf rfl rfl rfl (by decide +kernel) ⟨Nat.le_of_ble_eq_true rfl, Nat.le_of_ble_eq_true rfl⟩) (z_preV (wc := [(f0, .inr (1, [.ref f1, .ref f2, .ref f3, .int (nI (u.2.2.1 1))])), (f1, zaI k 30 (u.2.1 10))]) 1 1 hP hD hK [1, 2] rfl rfl rfl rfl zb0 zp0) rfl rfl hl.1 rfl (lv_room (Nat.le_of_ble_eq_true rfl)) dX8_forget_5 ⟨Nat.zero_le _, Nat.zero_le _⟩) hP hD hS hA [1, 2] [0] rfl rfl rfl (by decide) (fun w H locs hF hP hD hS => ?_)
  subst hF
  have hP : va_P D vwCl [(hm, .inr (7, [.ref p0, .ref c0, .ref n0, .ref b0, .ref e0, .ref f0, .ref l1, .ref l2, .ref l3, .ref l4, .ref l5, .int (u.2.1 11 2), .int (msk (u.2.2.2 1)), .long (u.1 9 0)])), (f0, .inr (1, [.ref f1, .ref f2, .ref f3, .int (nI (u.2.2.1 1))])), (f1, zaI k 30 (u.2.1 10))] H := hP
  have hD : va_D A [(hm, .inr (7, [.ref p0, .ref c0, .ref n0, .ref b0, .ref e0, .ref f0, .ref l1, .ref l2, .ref l3, .ref l4, .ref l5, .int (u.2.1 11 2), .int (msk (u.2.2.2 1)), .long (u.1 9 0)])), (f0, .inr (1, [.ref f1, .ref f2, .ref f3, .int (nI (u.2.2.1 1))])), (f1, zaI k 30 (u.2.1 10))] := hD
  refine lv_istore_n (lv' := [(2, .int (-1)), (0, .ref hm), (1, .int a)]) hx hb dX8_forget_8 rfl hl (by decide) rfl (fun ls hl => ?_)
  refine lv_iload_n hx hb dX8_forget_9 rfl (lv_at hl 0 rfl) ?_
  refine lv_iconst (v := (-1)) hx hb dX8_forget_10 (by decide) ?_
  refine lv_icmp_ne (tgt := 16) hx hb dX8_forget_11 (by decide) (fun c => absurd c (by decide)) (fun _ => ?_)
  refine lv_iconst (v := (-1)) hx hb dX8_forget_14 (by decide) ?_
  have hP9 := hP.sub (ws' := [(hm, .inr (7, [.ref p0, .ref c0, .ref n0, .ref b0, .ref e0, .ref f0, .ref l1, .ref l2, .ref l3, .ref l4, .ref l5, .int (u.2.1 11 2), .int (msk (u.2.2.2 1)), .long (u.1 9 0)])), (f0, .inr (1, [.ref f1, .ref f2, .ref f3, .int (nI (u.2.2.1 1))])), (f1, zaI k 30 (u.2.1 10))]) [0, 1, 2] rfl
  have hD9 := hD.sub (ws' := [(hm, .inr (7, [.ref p0, .ref c0, .ref n0, .ref b0, .ref e0, .ref f0, .ref l1, .ref l2, .ref l3, .ref l4, .ref l5, .int (u.2.1 11 2), .int (msk (u.2.2.2 1)), .long (u.1 9 0)])), (f0, .inr (1, [.ref f1, .ref f2, .ref f3, .int (nI (u.2.2.1 1))])), (f1, zaI k 30 (u.2.1 10))]) [0, 1, 2] (by decide) rfl
  exact W.iret (v := (-1)) hx hb hr (fun t9 ht9 hW9 => ⟨⟨(-1), [(hm, .inr (7, [.ref p0, .ref c0, .ref n0, .ref b0, .ref e0, .ref f0, .ref l1, .ref l2, .ref l3, .ref l4, .ref l5, .int (u.2.1 11 2), .int (msk (u.2.2.2 1)), .long (u.1 9 0)])), (f0, .inr (1, [.ref f1, .ref f2, .ref f3, .int (nI (u.2.2.1 1))])), (f1, zaI k 30 (u.2.1 10))], rfl, ⟨rfl, rfl⟩, by rw [ht9]; exact hP9, hD9⟩, hS.F ht9⟩) hS.2.2 dX8_forget_15
set_option maxHeartbeats 4000000 in
set_option maxRecDepth 100000 in
theorem c_X8_angleTo_yes (l : Launch) (D : va_G) (k : Nat → ClassId) (sz : Nat) (hm p0 c0 n0 b0 e0 e1 e2 e3 e4 e5 e6 e7 g0 g1 g2 g3 g4 g5 q0 f0 f1 f2 f3 l1 l2 l3 l4 l5 : Nat) (u : zS) (xS xI xR wK : Nat → Int64) (a : Int32) (i : Nat) (hn : u.2.2.1 1 ≤ 30) (hi : i < u.2.2.1 1) (hi2 : u.2.1 10 i = a) (hi3 : ∀ j, j < i → ¬ u.2.1 10 j = a) (hq : (qang2 (pick (u.1 10) i) (u.1 1)).toInt < 2 ^ 62) : Met l yX8_angleTo wsX8_angleTo ({ frames := 3, cells := 0, slots := 0, locals := 72 } : Room) (va_Pc [.ref hm, .int a] (zPre D k [(hm, .inr (7, [.ref p0, .ref c0, .ref n0, .ref b0, .ref e0, .ref f0, .ref l1, .ref l2, .ref l3, .ref l4, .ref l5, .int (u.2.1 11 2), .int (msk (u.2.2.2 1)), .long (u.1 9 0)])), (e0, .inr (4, [.ref g0, .ref q0, .ref e1, .ref e2, .ref e3, .ref e4, .ref e5, .ref e6, .ref e7, .int (u.2.1 11 3), .int (u.2.1 11 4), .int (u.2.1 11 5)])), (g0, .inr (0, [.ref g1, .ref g2, .ref g3, .ref g4, .ref g5])), (g1, zaJ k 4 (u.1 1)), (g2, zaJ k 4 xS), (g3, zaJ k 4 xI), (g4, zaJ k 4 xR), (f0, .inr (1, [.ref f1, .ref f2, .ref f3, .int (nI (u.2.2.1 1))])), (f1, zaI k 30 (u.2.1 10)), (f2, zaJ k 120 (u.1 10)), (f3, zaJ k 4 wK)] sz zN)) (zQl D [(hm, .inr (7, [.ref p0, .ref c0, .ref n0, .ref b0, .ref e0, .ref f0, .ref l1, .ref l2, .ref l3, .ref l4, .ref l5, .int (u.2.1 11 2), .int (msk (u.2.2.2 1)), .long (u.1 9 0)])), (e0, .inr (4, [.ref g0, .ref q0, .ref e1, .ref e2, .ref e3, .ref e4, .ref e5, .ref e6, .ref e7, .int (u.2.1 11 3), .int (u.2.1 11 4), .int (u.2.1 11 5)])), (g0, .inr (0, [.ref g1, .ref g2, .ref g3, .ref g4, .ref g5])), (g1, zaJ k 4 (u.1 1)), (g2, zaJ k 4 xS), (g3, zaJ k 4 xI), (g4, zaJ k 4 xR), (f0, .inr (1, [.ref f1, .ref f2, .ref f3, .int (nI (u.2.2.1 1))])), (f1, zaI k 30 (u.2.1 10)), (f2, zaJ k 120 (u.1 10)), (f3, zaJ k 4 wK)] sz (qang (pick (u.1 10) i) (u.1 1)) (fun w : va_W => ∃ (xI2 xR2 : Nat → Int64), w = [(hm, .inr (7, [.ref p0, .ref c0, .ref n0, .ref b0, .ref e0, .ref f0, .ref l1, .ref l2, .ref l3, .ref l4, .ref l5, .int (u.2.1 11 2), .int (msk (u.2.2.2 1)), .long (u.1 9 0)])), (e0, .inr (4, [.ref g0, .ref q0, .ref e1, .ref e2, .ref e3, .ref e4, .ref e5, .ref e6, .ref e7, .int (u.2.1 11 3), .int (u.2.1 11 4), .int (u.2.1 11 5)])), (g0, .inr (0, [.ref g1, .ref g2, .ref g3, .ref g4, .ref g5])), (g1, zaJ k 4 (u.1 1)), (g2, zaJ k 4 xS), (g3, zaJ k 4 xI2), (g4, zaJ k 4 xR2), (f0, .inr (1, [.ref f1, .ref f2, .ref f3, .int (nI (u.2.2.1 1))])), (f1, zaI k 30 (u.2.1 10)), (f2, zaJ k 120 (u.1 10)), (f3, zaJ k 4 (pick (u.1 10) i))])) 0 0 (va_A [(hm, .inr (7, [.ref p0, .ref c0, .ref n0, .ref b0, .ref e0, .ref f0, .ref l1, .ref l2, .ref l3, .ref l4, .ref l5, .int (u.2.1 11 2), .int (msk (u.2.2.2 1)), .long (u.1 9 0)])), (e0, .inr (4, [.ref g0, .ref q0, .ref e1, .ref e2, .ref e3, .ref e4, .ref e5, .ref e6, .ref e7, .int (u.2.1 11 3), .int (u.2.1 11 4), .int (u.2.1 11 5)])), (g0, .inr (0, [.ref g1, .ref g2, .ref g3, .ref g4, .ref g5])), (g1, zaJ k 4 (u.1 1)), (g2, zaJ k 4 xS), (g3, zaJ k 4 xI), (g4, zaJ k 4 xR), (f0, .inr (1, [.ref f1, .ref f2, .ref f3, .int (nI (u.2.2.1 1))])), (f1, zaI k 30 (u.2.1 10)), (f2, zaJ k 120 (u.1 10)), (f3, zaJ k 4 wK)] sz) := by
  refine Met.ofW (cc := cX8_angleTo) (maxL := 3) (ret := (some .long)) (by decide) rfl ?_
  intro p e s m args below meth c s₁ B hml hv
  obtain ⟨rfl, hsz, hP, hK, hD0, hE⟩ := hv
  have hx := B.exec
  have hb := B.bytes
  have hr := B.returns
  have hts := atoms_spec (ws := wsX8_angleTo) B.pre
  have hown : s.vm.findClass RX8 = some m.cls := findClass_of_methodNamed B.named
  have hlocks := B.notSynchronized
  subst hsz
  have hD := hD0.self (sz := s.heap.size)
  delta zQl zB
  generalize hAe : va_A [(hm, .inr (7, [.ref p0, .ref c0, .ref n0, .ref b0, .ref e0, .ref f0, .ref l1, .ref l2, .ref l3, .ref l4, .ref l5, .int (u.2.1 11 2), .int (msk (u.2.2.2 1)), .long (u.1 9 0)])), (e0, .inr (4, [.ref g0, .ref q0, .ref e1, .ref e2, .ref e3, .ref e4, .ref e5, .ref e6, .ref e7, .int (u.2.1 11 3), .int (u.2.1 11 4), .int (u.2.1 11 5)])), (g0, .inr (0, [.ref g1, .ref g2, .ref g3, .ref g4, .ref g5])), (g1, zaJ k 4 (u.1 1)), (g2, zaJ k 4 xS), (g3, zaJ k 4 xI), (g4, zaJ k 4 xR), (f0, .inr (1, [.ref f1, .ref f2, .ref f3, .int (nI (u.2.2.1 1))])), (f1, zaI k 30 (u.2.1 10)), (f2, zaJ k 120 (u.1 10)), (f3, zaJ k 4 wK)] s.heap.size = A at hD hE ⊢
  have hA : ∀ q : Nat, s.heap.size ≤ q → A q := fun q h => by rw [← hAe]; exact Or.inr h
  have hS : va_S A s.heap s.heap [] := va_S.rf
  have hl := lv_entry [.ref hm, .int a] (n := 3) (Nat.le_of_ble_eq_true rfl)
  rw [lg_entry_eq]
  generalize (lg_sl [.ref hm, .int a] ++ List.replicate (3 - (lg_sl [.ref hm, .int a]).length) Slot.unset).toArray = ls at hl ⊢
  have hl : lv_has ls 3 [(0, .ref hm), (1, .int a)] := hl
  have hl47 : (Cond.fieldLink RX8 47 "InertialReference" "shelf" "LInertialReference$AttitudeShelf;").before #[Value.ref hm, Value.int a] s = true := zw hts 1 rfl
  have hinX8 : ∀ w ∈ u_ws RX8 TX8 14, w ∈ wsX8_angleTo := fun w h => List.mem_cons_of_mem _ (List.mem_append_left _ (List.mem_append_left _ (List.mem_append_left _ (List.mem_append_right _ h))))
  have hl40 : (Cond.fieldLink RX8 40 "InertialReference" "estimator" "LInertialReference$Estimator;").before #[Value.ref hm, Value.int a] s = true := zw hts 3 rfl
  have hl196 : (Cond.fieldLinkNest RX8 196 "InertialReference$Estimator" "attitude" "LInertialReference$Attitude;" "InertialReference").before #[Value.ref hm, Value.int a] s = true := va_Nw.use rfl (zn_RX8_196 hE)
  have hinX4 : ∀ w ∈ u_ws RX4 TX4 12, w ∈ wsX8_angleTo := fun w h => List.mem_cons_of_mem _ (List.mem_append_left _ (List.mem_append_left _ (List.mem_append_right _ h)))
  refine lv_aload_n hx hb dX8_angleTo_0 rfl (lv_at hl 0 rfl) ?_
  refine va_get (D := D) (ci := 7) (v := .ref f0) (C := RX8) (T := TX8) (N := 14) hx hb hts hinX8 hown hK hP 0 rfl rfl 5 (Nat.le_of_ble_eq_true rfl) hl47 (fun _ h9 => h9) rfl dX8_angleTo_1 ?_
  refine lv_iload_n hx hb dX8_angleTo_4 rfl (lv_at hl 1 rfl) ?_
  refine z_calli0 (wc := [(f0, .inr (1, [.ref f1, .ref f2, .ref f3, .int (nI (u.2.2.1 1))])), (f1, zaI k 30 (u.2.1 10))]) (wr := [(hm, .inr (7, [.ref p0, .ref c0, .ref n0, .ref b0, .ref e0, .ref f0, .ref l1, .ref l2, .ref l3, .ref l4, .ref l5, .int (u.2.1 11 2), .int (msk (u.2.2.2 1)), .long (u.1 9 0)])), (e0, .inr (4, [.ref g0, .ref q0, .ref e1, .ref e2, .ref e3, .ref e4, .ref e5, .ref e6, .ref e7, .int (u.2.1 11 3), .int (u.2.1 11 4), .int (u.2.1 11 5)])), (g0, .inr (0, [.ref g1, .ref g2, .ref g3, .ref g4, .ref g5])), (g1, zaJ k 4 (u.1 1)), (g2, zaJ k 4 xS), (g3, zaJ k 4 xI), (g4, zaJ k 4 xR), (f2, zaJ k 120 (u.1 10)), (f3, zaJ k 4 wK)]) (va_runV (As := [.int a]) (rest := []) ⟨hx, hb, hml, hown, hts⟩ (c_X1_placeOf_yes l D k s.heap.size f0 f1 f2 f3 (u.2.2.1 1) (u.2.1 10) (u.1 10) wK a i hn hi hi2 hi3) (cwV 1 hts gX8_angleTo_X1_placeOf rfl rfl rfl (by decide +kernel) ⟨Nat.le_of_ble_eq_true rfl, Nat.le_of_ble_eq_true rfl⟩) (z_preV (wc := [(f0, .inr (1, [.ref f1, .ref f2, .ref f3, .int (nI (u.2.2.1 1))])), (f1, zaI k 30 (u.2.1 10))]) 7 1 hP hD hK [7, 8] rfl rfl rfl rfl zb0 zp0) rfl rfl hl.1 rfl (lv_room (Nat.le_of_ble_eq_true rfl)) dX8_angleTo_5 ⟨Nat.zero_le _, Nat.zero_le _⟩) hP hD hS hA [7, 8] [0, 1, 2, 3, 4, 5, 6, 9, 10] rfl rfl rfl (by decide) (fun w H locs hF hP hD hS => ?_)
  subst hF
  have hP : va_P D vwCl [(hm, .inr (7, [.ref p0, .ref c0, .ref n0, .ref b0, .ref e0, .ref f0, .ref l1, .ref l2, .ref l3, .ref l4, .ref l5, .int (u.2.1 11 2), .int (msk (u.2.2.2 1)), .long (u.1 9 0)])), (e0, .inr (4, [.ref g0, .ref q0, .ref e1, .ref e2, .ref e3, .ref e4, .ref e5, .ref e6, .ref e7, .int (u.2.1 11 3), .int (u.2.1 11 4), .int (u.2.1 11 5)])), (g0, .inr (0, [.ref g1, .ref g2, .ref g3, .ref g4, .ref g5])), (g1, zaJ k 4 (u.1 1)), (g2, zaJ k 4 xS), (g3, zaJ k 4 xI), (g4, zaJ k 4 xR), (f2, zaJ k 120 (u.1 10)), (f3, zaJ k 4 wK), (f0, .inr (1, [.ref f1, .ref f2, .ref f3, .int (nI (u.2.2.1 1))])), (f1, zaI k 30 (u.2.1 10))] H := hP
  have hD : va_D A [(hm, .inr (7, [.ref p0, .ref c0, .ref n0, .ref b0, .ref e0, .ref f0, .ref l1, .ref l2, .ref l3, .ref l4, .ref l5, .int (u.2.1 11 2), .int (msk (u.2.2.2 1)), .long (u.1 9 0)])), (e0, .inr (4, [.ref g0, .ref q0, .ref e1, .ref e2, .ref e3, .ref e4, .ref e5, .ref e6, .ref e7, .int (u.2.1 11 3), .int (u.2.1 11 4), .int (u.2.1 11 5)])), (g0, .inr (0, [.ref g1, .ref g2, .ref g3, .ref g4, .ref g5])), (g1, zaJ k 4 (u.1 1)), (g2, zaJ k 4 xS), (g3, zaJ k 4 xI), (g4, zaJ k 4 xR), (f2, zaJ k 120 (u.1 10)), (f3, zaJ k 4 wK), (f0, .inr (1, [.ref f1, .ref f2, .ref f3, .int (nI (u.2.2.1 1))])), (f1, zaI k 30 (u.2.1 10))] := hD
  refine lv_istore_n (lv' := [(2, .int (nI i)), (0, .ref hm), (1, .int a)]) hx hb dX8_angleTo_8 rfl hl (by decide) rfl (fun ls hl => ?_)
  refine lv_iload_n hx hb dX8_angleTo_9 rfl (lv_at hl 0 rfl) ?_
  refine lv_iconst (v := (-1)) hx hb dX8_angleTo_10 (by decide) ?_
  refine lv_icmp_ne (tgt := 18) hx hb dX8_angleTo_11 (by decide) (fun c => ?_) (fun c => absurd c (nI_nm1 (by omega)))
  refine lv_aload_n hx hb dX8_angleTo_18 rfl (lv_at hl 1 rfl) ?_
  refine va_get (D := D) (ci := 7) (v := .ref e0) (C := RX8) (T := TX8) (N := 14) hx hb hts hinX8 hown hK hP 0 rfl rfl 4 (Nat.le_of_ble_eq_true rfl) hl40 (fun _ h9 => h9) rfl dX8_angleTo_19 ?_
  refine va_getN (D := D) (ci := 4) (v := .ref g0) (C := RX4) (T := TX4) (N := 12) hx hb hts hinX4 hown hK hP 1 rfl rfl 0 (Nat.le_of_ble_eq_true rfl) hl196 (fun _ h9 => h9) rfl dX8_angleTo_22 ?_
  refine lv_aload_n hx hb dX8_angleTo_25 rfl (lv_at hl 1 rfl) ?_
  refine va_get (D := D) (ci := 7) (v := .ref f0) (C := RX8) (T := TX8) (N := 14) hx hb hts hinX8 hown hK hP 0 rfl rfl 5 (Nat.le_of_ble_eq_true rfl) hl47 (fun _ h9 => h9) rfl dX8_angleTo_26 ?_
  refine lv_iload_n hx hb dX8_angleTo_29 rfl (lv_at hl 0 rfl) ?_
  refine z_callr0 (wc := [(f0, .inr (1, [.ref f1, .ref f2, .ref f3, .int (nI (u.2.2.1 1))])), (f1, zaI k 30 (u.2.1 10)), (f2, zaJ k 120 (u.1 10)), (f3, zaJ k 4 wK)]) (wr := [(hm, .inr (7, [.ref p0, .ref c0, .ref n0, .ref b0, .ref e0, .ref f0, .ref l1, .ref l2, .ref l3, .ref l4, .ref l5, .int (u.2.1 11 2), .int (msk (u.2.2.2 1)), .long (u.1 9 0)])), (e0, .inr (4, [.ref g0, .ref q0, .ref e1, .ref e2, .ref e3, .ref e4, .ref e5, .ref e6, .ref e7, .int (u.2.1 11 3), .int (u.2.1 11 4), .int (u.2.1 11 5)])), (g0, .inr (0, [.ref g1, .ref g2, .ref g3, .ref g4, .ref g5])), (g1, zaJ k 4 (u.1 1)), (g2, zaJ k 4 xS), (g3, zaJ k 4 xI), (g4, zaJ k 4 xR)]) (va_runV (As := [.int (nI i)]) (rest := [.ref g0]) ⟨hx, hb, hml, hown, hts⟩ (c_X1_at l D k H.size f0 f1 f2 f3 (u.2.2.1 1) (u.2.1 10) (u.1 10) wK i hn hi) (cwV 1 hts gX8_angleTo_X1_at rfl rfl rfl (by decide +kernel) ⟨Nat.le_of_ble_eq_true rfl, Nat.le_of_ble_eq_true rfl⟩) (z_preV (wc := [(f0, .inr (1, [.ref f1, .ref f2, .ref f3, .int (nI (u.2.2.1 1))])), (f1, zaI k 30 (u.2.1 10)), (f2, zaJ k 120 (u.1 10)), (f3, zaJ k 4 wK)]) 9 1 hP hD hK [9, 10, 7, 8] rfl rfl rfl rfl zb0 zp0) rfl rfl hl.1 rfl (lv_room (Nat.le_of_ble_eq_true rfl)) dX8_angleTo_30 ⟨Nat.zero_le _, Nat.zero_le _⟩) hP hD hS hA [9, 10, 7, 8] [0, 1, 2, 3, 4, 5, 6] rfl rfl rfl (by decide) (fun w H locs hF hP hD hS => ?_)
  subst hF
  have hP : va_P D vwCl [(hm, .inr (7, [.ref p0, .ref c0, .ref n0, .ref b0, .ref e0, .ref f0, .ref l1, .ref l2, .ref l3, .ref l4, .ref l5, .int (u.2.1 11 2), .int (msk (u.2.2.2 1)), .long (u.1 9 0)])), (e0, .inr (4, [.ref g0, .ref q0, .ref e1, .ref e2, .ref e3, .ref e4, .ref e5, .ref e6, .ref e7, .int (u.2.1 11 3), .int (u.2.1 11 4), .int (u.2.1 11 5)])), (g0, .inr (0, [.ref g1, .ref g2, .ref g3, .ref g4, .ref g5])), (g1, zaJ k 4 (u.1 1)), (g2, zaJ k 4 xS), (g3, zaJ k 4 xI), (g4, zaJ k 4 xR), (f0, .inr (1, [.ref f1, .ref f2, .ref f3, .int (nI (u.2.2.1 1))])), (f1, zaI k 30 (u.2.1 10)), (f2, zaJ k 120 (u.1 10)), (f3, zaJ k 4 (pick (u.1 10) i))] H := hP
  have hD : va_D A [(hm, .inr (7, [.ref p0, .ref c0, .ref n0, .ref b0, .ref e0, .ref f0, .ref l1, .ref l2, .ref l3, .ref l4, .ref l5, .int (u.2.1 11 2), .int (msk (u.2.2.2 1)), .long (u.1 9 0)])), (e0, .inr (4, [.ref g0, .ref q0, .ref e1, .ref e2, .ref e3, .ref e4, .ref e5, .ref e6, .ref e7, .int (u.2.1 11 3), .int (u.2.1 11 4), .int (u.2.1 11 5)])), (g0, .inr (0, [.ref g1, .ref g2, .ref g3, .ref g4, .ref g5])), (g1, zaJ k 4 (u.1 1)), (g2, zaJ k 4 xS), (g3, zaJ k 4 xI), (g4, zaJ k 4 xR), (f0, .inr (1, [.ref f1, .ref f2, .ref f3, .int (nI (u.2.2.1 1))])), (f1, zaI k 30 (u.2.1 10)), (f2, zaJ k 120 (u.1 10)), (f3, zaJ k 4 (pick (u.1 10) i))] := hD
  refine z_calll0 (wc := [(g0, .inr (0, [.ref g1, .ref g2, .ref g3, .ref g4, .ref g5])), (g1, zaJ k 4 (u.1 1)), (g2, zaJ k 4 xS), (g3, zaJ k 4 xI), (g4, zaJ k 4 xR), (f3, zaJ k 4 (pick (u.1 10) i))]) (wr := [(hm, .inr (7, [.ref p0, .ref c0, .ref n0, .ref b0, .ref e0, .ref f0, .ref l1, .ref l2, .ref l3, .ref l4, .ref l5, .int (u.2.1 11 2), .int (msk (u.2.2.2 1)), .long (u.1 9 0)])), (e0, .inr (4, [.ref g0, .ref q0, .ref e1, .ref e2, .ref e3, .ref e4, .ref e5, .ref e6, .ref e7, .int (u.2.1 11 3), .int (u.2.1 11 4), .int (u.2.1 11 5)])), (f0, .inr (1, [.ref f1, .ref f2, .ref f3, .int (nI (u.2.2.1 1))])), (f1, zaI k 30 (u.2.1 10)), (f2, zaJ k 120 (u.1 10))]) (va_runV (As := [.ref f3]) (rest := []) ⟨hx, hb, hml, hown, hts⟩ (c_X0_angleFrom l D k H.size g0 g1 g2 g3 g4 g5 0 0 0 f3 (u.1 1) xS xI xR (fun _ => 0) (fun _ => 0) (fun _ => 0) (pick (u.1 10) i) hq) (cwV 1 hts gX8_angleTo_X0_angleFrom rfl rfl rfl (by decide +kernel) ⟨Nat.le_of_ble_eq_true rfl, Nat.le_of_ble_eq_true rfl⟩) (z_preV (wc := [(g0, .inr (0, [.ref g1, .ref g2, .ref g3, .ref g4, .ref g5])), (g1, zaJ k 4 (u.1 1)), (g2, zaJ k 4 xS), (g3, zaJ k 4 xI), (g4, zaJ k 4 xR), (f3, zaJ k 4 (pick (u.1 10) i))]) 2 0 hP hD hK [2, 3, 4, 5, 6, 10] rfl rfl rfl rfl zb0 zp0) rfl rfl hl.1 rfl (lv_room (Nat.le_of_ble_eq_true rfl)) dX8_angleTo_33 ⟨Nat.zero_le _, Nat.zero_le _⟩) hP hD hS hA [2, 3, 4, 5, 6, 10] [0, 1, 7, 8, 9] rfl rfl rfl (by decide) (fun w H locs hF hP hD hS => ?_)
  obtain ⟨fI2_1, fR2_2, rfl⟩ := hF
  have hP : va_P D vwCl [(hm, .inr (7, [.ref p0, .ref c0, .ref n0, .ref b0, .ref e0, .ref f0, .ref l1, .ref l2, .ref l3, .ref l4, .ref l5, .int (u.2.1 11 2), .int (msk (u.2.2.2 1)), .long (u.1 9 0)])), (e0, .inr (4, [.ref g0, .ref q0, .ref e1, .ref e2, .ref e3, .ref e4, .ref e5, .ref e6, .ref e7, .int (u.2.1 11 3), .int (u.2.1 11 4), .int (u.2.1 11 5)])), (f0, .inr (1, [.ref f1, .ref f2, .ref f3, .int (nI (u.2.2.1 1))])), (f1, zaI k 30 (u.2.1 10)), (f2, zaJ k 120 (u.1 10)), (g0, .inr (0, [.ref g1, .ref g2, .ref g3, .ref g4, .ref g5])), (g1, zaJ k 4 (u.1 1)), (g2, zaJ k 4 xS), (g3, zaJ k 4 fI2_1), (g4, zaJ k 4 fR2_2), (f3, zaJ k 4 (pick (u.1 10) i))] H := hP
  have hD : va_D A [(hm, .inr (7, [.ref p0, .ref c0, .ref n0, .ref b0, .ref e0, .ref f0, .ref l1, .ref l2, .ref l3, .ref l4, .ref l5, .int (u.2.1 11 2), .int (msk (u.2.2.2 1)), .long (u.1 9 0)])), (e0, .inr (4, [.ref g0, .ref q0, .ref e1, .ref e2, .ref e3, .ref e4, .ref e5, .ref e6, .ref e7, .int (u.2.1 11 3), .int (u.2.1 11 4), .int (u.2.1 11 5)])), (f0, .inr (1, [.ref f1, .ref f2, .ref f3, .int (nI (u.2.2.1 1))])), (f1, zaI k 30 (u.2.1 10)), (f2, zaJ k 120 (u.1 10)), (g0, .inr (0, [.ref g1, .ref g2, .ref g3, .ref g4, .ref g5])), (g1, zaJ k 4 (u.1 1)), (g2, zaJ k 4 xS), (g3, zaJ k 4 fI2_1), (g4, zaJ k 4 fR2_2), (f3, zaJ k 4 (pick (u.1 10) i))] := hD
  have hP9 := hP.sub (ws' := [(hm, .inr (7, [.ref p0, .ref c0, .ref n0, .ref b0, .ref e0, .ref f0, .ref l1, .ref l2, .ref l3, .ref l4, .ref l5, .int (u.2.1 11 2), .int (msk (u.2.2.2 1)), .long (u.1 9 0)])), (e0, .inr (4, [.ref g0, .ref q0, .ref e1, .ref e2, .ref e3, .ref e4, .ref e5, .ref e6, .ref e7, .int (u.2.1 11 3), .int (u.2.1 11 4), .int (u.2.1 11 5)])), (g0, .inr (0, [.ref g1, .ref g2, .ref g3, .ref g4, .ref g5])), (g1, zaJ k 4 (u.1 1)), (g2, zaJ k 4 xS), (g3, zaJ k 4 fI2_1), (g4, zaJ k 4 fR2_2), (f0, .inr (1, [.ref f1, .ref f2, .ref f3, .int (nI (u.2.2.1 1))])), (f1, zaI k 30 (u.2.1 10)), (f2, zaJ k 120 (u.1 10)), (f3, zaJ k 4 (pick (u.1 10) i))]) [0, 1, 5, 6, 7, 8, 9, 2, 3, 4, 10] rfl
  have hD9 := hD.sub (ws' := [(hm, .inr (7, [.ref p0, .ref c0, .ref n0, .ref b0, .ref e0, .ref f0, .ref l1, .ref l2, .ref l3, .ref l4, .ref l5, .int (u.2.1 11 2), .int (msk (u.2.2.2 1)), .long (u.1 9 0)])), (e0, .inr (4, [.ref g0, .ref q0, .ref e1, .ref e2, .ref e3, .ref e4, .ref e5, .ref e6, .ref e7, .int (u.2.1 11 3), .int (u.2.1 11 4), .int (u.2.1 11 5)])), (g0, .inr (0, [.ref g1, .ref g2, .ref g3, .ref g4, .ref g5])), (g1, zaJ k 4 (u.1 1)), (g2, zaJ k 4 xS), (g3, zaJ k 4 fI2_1), (g4, zaJ k 4 fR2_2), (f0, .inr (1, [.ref f1, .ref f2, .ref f3, .int (nI (u.2.2.1 1))])), (f1, zaI k 30 (u.2.1 10)), (f2, zaJ k 120 (u.1 10)), (f3, zaJ k 4 (pick (u.1 10) i))]) [0, 1, 5, 6, 7, 8, 9, 2, 3, 4, 10] (by decide) rfl
  exact W.lret (v := qang (pick (u.1 10) i) (u.1 1)) hx hb hr (fun t9 ht9 hW9 => ⟨⟨(qang (pick (u.1 10) i) (u.1 1)), [(hm, .inr (7, [.ref p0, .ref c0, .ref n0, .ref b0, .ref e0, .ref f0, .ref l1, .ref l2, .ref l3, .ref l4, .ref l5, .int (u.2.1 11 2), .int (msk (u.2.2.2 1)), .long (u.1 9 0)])), (e0, .inr (4, [.ref g0, .ref q0, .ref e1, .ref e2, .ref e3, .ref e4, .ref e5, .ref e6, .ref e7, .int (u.2.1 11 3), .int (u.2.1 11 4), .int (u.2.1 11 5)])), (g0, .inr (0, [.ref g1, .ref g2, .ref g3, .ref g4, .ref g5])), (g1, zaJ k 4 (u.1 1)), (g2, zaJ k 4 xS), (g3, zaJ k 4 fI2_1), (g4, zaJ k 4 fR2_2), (f0, .inr (1, [.ref f1, .ref f2, .ref f3, .int (nI (u.2.2.1 1))])), (f1, zaI k 30 (u.2.1 10)), (f2, zaJ k 120 (u.1 10)), (f3, zaJ k 4 (pick (u.1 10) i))], rfl, ⟨rfl, ⟨fI2_1, fR2_2, rfl⟩⟩, by rw [ht9]; exact hP9, hD9⟩, hS.F ht9⟩) hS.2.2 dX8_angleTo_36
set_option maxHeartbeats 4000000 in
set_option maxRecDepth 100000 in
theorem c_X8_angleTo_no (l : Launch) (D : va_G) (k : Nat → ClassId) (sz : Nat) (hm p0 c0 n0 b0 e0 f0 f1 f2 f3 l1 l2 l3 l4 l5 : Nat) (u : zS) (a : Int32) (hn : u.2.2.1 1 ≤ 30) (hi3 : ∀ j, j < u.2.2.1 1 → ¬ u.2.1 10 j = a) : Met l yX8_angleTo wsX8_angleTo ({ frames := 1, cells := 0, slots := 0, locals := 22 } : Room) (va_Pc [.ref hm, .int a] (zPre D k [(hm, .inr (7, [.ref p0, .ref c0, .ref n0, .ref b0, .ref e0, .ref f0, .ref l1, .ref l2, .ref l3, .ref l4, .ref l5, .int (u.2.1 11 2), .int (msk (u.2.2.2 1)), .long (u.1 9 0)])), (f0, .inr (1, [.ref f1, .ref f2, .ref f3, .int (nI (u.2.2.1 1))])), (f1, zaI k 30 (u.2.1 10))] sz zX0)) (zQl D [(hm, .inr (7, [.ref p0, .ref c0, .ref n0, .ref b0, .ref e0, .ref f0, .ref l1, .ref l2, .ref l3, .ref l4, .ref l5, .int (u.2.1 11 2), .int (msk (u.2.2.2 1)), .long (u.1 9 0)])), (f0, .inr (1, [.ref f1, .ref f2, .ref f3, .int (nI (u.2.2.1 1))])), (f1, zaI k 30 (u.2.1 10))] sz (-1) (fun w : va_W => w = [(hm, .inr (7, [.ref p0, .ref c0, .ref n0, .ref b0, .ref e0, .ref f0, .ref l1, .ref l2, .ref l3, .ref l4, .ref l5, .int (u.2.1 11 2), .int (msk (u.2.2.2 1)), .long (u.1 9 0)])), (f0, .inr (1, [.ref f1, .ref f2, .ref f3, .int (nI (u.2.2.1 1))])), (f1, zaI k 30 (u.2.1 10))])) 0 0 (va_A [(hm, .inr (7, [.ref p0, .ref c0, .ref n0, .ref b0, .ref e0, .ref f0, .ref l1, .ref l2, .ref l3, .ref l4, .ref l5, .int (u.2.1 11 2), .int (msk (u.2.2.2 1)), .long (u.1 9 0)])), (f0, .inr (1, [.ref f1, .ref f2, .ref f3, .int (nI (u.2.2.1 1))])), (f1, zaI k 30 (u.2.1 10))] sz) := by
  refine Met.ofW (cc := cX8_angleTo) (maxL := 3) (ret := (some .long)) (by decide) rfl ?_
  intro p e s m args below meth c s₁ B hml hv
  obtain ⟨rfl, hsz, hP, hK, hD0, hE⟩ := hv
  have hx := B.exec
  have hb := B.bytes
  have hr := B.returns
  have hts := atoms_spec (ws := wsX8_angleTo) B.pre
  have hown : s.vm.findClass RX8 = some m.cls := findClass_of_methodNamed B.named
  have hlocks := B.notSynchronized
  subst hsz
  have hD := hD0.self (sz := s.heap.size)
  delta zQl zB
  generalize hAe : va_A [(hm, .inr (7, [.ref p0, .ref c0, .ref n0, .ref b0, .ref e0, .ref f0, .ref l1, .ref l2, .ref l3, .ref l4, .ref l5, .int (u.2.1 11 2), .int (msk (u.2.2.2 1)), .long (u.1 9 0)])), (f0, .inr (1, [.ref f1, .ref f2, .ref f3, .int (nI (u.2.2.1 1))])), (f1, zaI k 30 (u.2.1 10))] s.heap.size = A at hD hE ⊢
  have hA : ∀ q : Nat, s.heap.size ≤ q → A q := fun q h => by rw [← hAe]; exact Or.inr h
  have hS : va_S A s.heap s.heap [] := va_S.rf
  have hl := lv_entry [.ref hm, .int a] (n := 3) (Nat.le_of_ble_eq_true rfl)
  rw [lg_entry_eq]
  generalize (lg_sl [.ref hm, .int a] ++ List.replicate (3 - (lg_sl [.ref hm, .int a]).length) Slot.unset).toArray = ls at hl ⊢
  have hl : lv_has ls 3 [(0, .ref hm), (1, .int a)] := hl
  have hl47 : (Cond.fieldLink RX8 47 "InertialReference" "shelf" "LInertialReference$AttitudeShelf;").before #[Value.ref hm, Value.int a] s = true := zw hts 1 rfl
  have hinX8 : ∀ w ∈ u_ws RX8 TX8 14, w ∈ wsX8_angleTo := fun w h => List.mem_cons_of_mem _ (List.mem_append_left _ (List.mem_append_left _ (List.mem_append_left _ (List.mem_append_right _ h))))
  have hl259 : (Cond.constantLong RX8 259 (-1)).before #[Value.ref hm, Value.int a] s = true := zw hts 2 rfl
  refine lv_aload_n hx hb dX8_angleTo_0 rfl (lv_at hl 0 rfl) ?_
  refine va_get (D := D) (ci := 7) (v := .ref f0) (C := RX8) (T := TX8) (N := 14) hx hb hts hinX8 hown hK hP 0 rfl rfl 5 (Nat.le_of_ble_eq_true rfl) hl47 (fun _ h9 => h9) rfl dX8_angleTo_1 ?_
  refine lv_iload_n hx hb dX8_angleTo_4 rfl (lv_at hl 1 rfl) ?_
  refine z_calli0 (wc := [(f0, .inr (1, [.ref f1, .ref f2, .ref f3, .int (nI (u.2.2.1 1))])), (f1, zaI k 30 (u.2.1 10))]) (wr := [(hm, .inr (7, [.ref p0, .ref c0, .ref n0, .ref b0, .ref e0, .ref f0, .ref l1, .ref l2, .ref l3, .ref l4, .ref l5, .int (u.2.1 11 2), .int (msk (u.2.2.2 1)), .long (u.1 9 0)]))]) (va_runV (As := [.int a]) (rest := []) ⟨hx, hb, hml, hown, hts⟩ (c_X1_placeOf_no l D k s.heap.size f0 f1 f2 f3 (u.2.2.1 1) (u.2.1 10) (fun _ => 0) (fun _ => 0) a hn hi3) (cwV 1 hts gX8_angleTo_X1_placeOf rfl rfl rfl (by decide +kernel) ⟨Nat.le_of_ble_eq_true rfl, Nat.le_of_ble_eq_true rfl⟩) (z_preV (wc := [(f0, .inr (1, [.ref f1, .ref f2, .ref f3, .int (nI (u.2.2.1 1))])), (f1, zaI k 30 (u.2.1 10))]) 1 1 hP hD hK [1, 2] rfl rfl rfl rfl zb0 zp0) rfl rfl hl.1 rfl (lv_room (Nat.le_of_ble_eq_true rfl)) dX8_angleTo_5 ⟨Nat.zero_le _, Nat.zero_le _⟩) hP hD hS hA [1, 2] [0] rfl rfl rfl (by decide) (fun w H locs hF hP hD hS => ?_)
  subst hF
  have hP : va_P D vwCl [(hm, .inr (7, [.ref p0, .ref c0, .ref n0, .ref b0, .ref e0, .ref f0, .ref l1, .ref l2, .ref l3, .ref l4, .ref l5, .int (u.2.1 11 2), .int (msk (u.2.2.2 1)), .long (u.1 9 0)])), (f0, .inr (1, [.ref f1, .ref f2, .ref f3, .int (nI (u.2.2.1 1))])), (f1, zaI k 30 (u.2.1 10))] H := hP
  have hD : va_D A [(hm, .inr (7, [.ref p0, .ref c0, .ref n0, .ref b0, .ref e0, .ref f0, .ref l1, .ref l2, .ref l3, .ref l4, .ref l5, .int (u.2.1 11 2), .int (msk (u.2.2.2 1)), .long (u.1 9 0)])), (f0, .inr (1, [.ref f1, .ref f2, .ref f3, .int (nI (u.2.2.1 1))])), (f1, zaI k 30 (u.2.1 10))] := hD
  refine lv_istore_n (lv' := [(2, .int (-1)), (0, .ref hm), (1, .int a)]) hx hb dX8_angleTo_8 rfl hl (by decide) rfl (fun ls hl => ?_)
  refine lv_iload_n hx hb dX8_angleTo_9 rfl (lv_at hl 0 rfl) ?_
  refine lv_iconst (v := (-1)) hx hb dX8_angleTo_10 (by decide) ?_
  refine lv_icmp_ne (tgt := 18) hx hb dX8_angleTo_11 (by decide) (fun c => absurd c (by decide)) (fun _ => ?_)
  refine lv_ldc2 hx hb hown hl259 dX8_angleTo_14 ?_
  have hP9 := hP.sub (ws' := [(hm, .inr (7, [.ref p0, .ref c0, .ref n0, .ref b0, .ref e0, .ref f0, .ref l1, .ref l2, .ref l3, .ref l4, .ref l5, .int (u.2.1 11 2), .int (msk (u.2.2.2 1)), .long (u.1 9 0)])), (f0, .inr (1, [.ref f1, .ref f2, .ref f3, .int (nI (u.2.2.1 1))])), (f1, zaI k 30 (u.2.1 10))]) [0, 1, 2] rfl
  have hD9 := hD.sub (ws' := [(hm, .inr (7, [.ref p0, .ref c0, .ref n0, .ref b0, .ref e0, .ref f0, .ref l1, .ref l2, .ref l3, .ref l4, .ref l5, .int (u.2.1 11 2), .int (msk (u.2.2.2 1)), .long (u.1 9 0)])), (f0, .inr (1, [.ref f1, .ref f2, .ref f3, .int (nI (u.2.2.1 1))])), (f1, zaI k 30 (u.2.1 10))]) [0, 1, 2] (by decide) rfl
  exact W.lret (v := (-1)) hx hb hr (fun t9 ht9 hW9 => ⟨⟨(-1), [(hm, .inr (7, [.ref p0, .ref c0, .ref n0, .ref b0, .ref e0, .ref f0, .ref l1, .ref l2, .ref l3, .ref l4, .ref l5, .int (u.2.1 11 2), .int (msk (u.2.2.2 1)), .long (u.1 9 0)])), (f0, .inr (1, [.ref f1, .ref f2, .ref f3, .int (nI (u.2.2.1 1))])), (f1, zaI k 30 (u.2.1 10))], rfl, ⟨rfl, rfl⟩, by rw [ht9]; exact hP9, hD9⟩, hS.F ht9⟩) hS.2.2 dX8_angleTo_17
set_option maxHeartbeats 4000000 in
set_option maxRecDepth 100000 in
theorem c_X8_storedNumber (l : Launch) (D : va_G) (k : Nat → ClassId) (sz : Nat) (hm p0 c0 n0 b0 e0 f0 f1 f2 f3 l1 l2 l3 l4 l5 : Nat) (u : zS) (a : Int32) (hn : u.2.2.1 1 ≤ 30) : Met l yX8_storedNumber wsX8_storedNumber ({ frames := 1, cells := 0, slots := 0, locals := 21 } : Room) (va_Pc [.ref hm, .int a] (zPre D k [(hm, .inr (7, [.ref p0, .ref c0, .ref n0, .ref b0, .ref e0, .ref f0, .ref l1, .ref l2, .ref l3, .ref l4, .ref l5, .int (u.2.1 11 2), .int (msk (u.2.2.2 1)), .long (u.1 9 0)])), (f0, .inr (1, [.ref f1, .ref f2, .ref f3, .int (nI (u.2.2.1 1))])), (f1, zaI k 30 (u.2.1 10))] sz zX0)) (zQi D [(hm, .inr (7, [.ref p0, .ref c0, .ref n0, .ref b0, .ref e0, .ref f0, .ref l1, .ref l2, .ref l3, .ref l4, .ref l5, .int (u.2.1 11 2), .int (msk (u.2.2.2 1)), .long (u.1 9 0)])), (f0, .inr (1, [.ref f1, .ref f2, .ref f3, .int (nI (u.2.2.1 1))])), (f1, zaI k 30 (u.2.1 10))] sz (if zin a 0 ((u.2.2.1 1 : Int) - 1) then (u.2.1 10) a.toNatClampNeg else -1) (fun w : va_W => w = [(hm, .inr (7, [.ref p0, .ref c0, .ref n0, .ref b0, .ref e0, .ref f0, .ref l1, .ref l2, .ref l3, .ref l4, .ref l5, .int (u.2.1 11 2), .int (msk (u.2.2.2 1)), .long (u.1 9 0)])), (f0, .inr (1, [.ref f1, .ref f2, .ref f3, .int (nI (u.2.2.1 1))])), (f1, zaI k 30 (u.2.1 10))])) 0 0 (va_A [(hm, .inr (7, [.ref p0, .ref c0, .ref n0, .ref b0, .ref e0, .ref f0, .ref l1, .ref l2, .ref l3, .ref l4, .ref l5, .int (u.2.1 11 2), .int (msk (u.2.2.2 1)), .long (u.1 9 0)])), (f0, .inr (1, [.ref f1, .ref f2, .ref f3, .int (nI (u.2.2.1 1))])), (f1, zaI k 30 (u.2.1 10))] sz) := by
  refine Met.ofW (cc := cX8_storedNumber) (maxL := 2) (ret := (some .int)) (by decide) rfl ?_
  intro p e s m args below meth c s₁ B hml hv
  obtain ⟨rfl, hsz, hP, hK, hD0, hE⟩ := hv
  have hx := B.exec
  have hb := B.bytes
  have hr := B.returns
  have hts := atoms_spec (ws := wsX8_storedNumber) B.pre
  have hown : s.vm.findClass RX8 = some m.cls := findClass_of_methodNamed B.named
  have hlocks := B.notSynchronized
  subst hsz
  have hD := hD0.self (sz := s.heap.size)
  delta zQi zB
  generalize hAe : va_A [(hm, .inr (7, [.ref p0, .ref c0, .ref n0, .ref b0, .ref e0, .ref f0, .ref l1, .ref l2, .ref l3, .ref l4, .ref l5, .int (u.2.1 11 2), .int (msk (u.2.2.2 1)), .long (u.1 9 0)])), (f0, .inr (1, [.ref f1, .ref f2, .ref f3, .int (nI (u.2.2.1 1))])), (f1, zaI k 30 (u.2.1 10))] s.heap.size = A at hD hE ⊢
  have hA : ∀ q : Nat, s.heap.size ≤ q → A q := fun q h => by rw [← hAe]; exact Or.inr h
  have hS : va_S A s.heap s.heap [] := va_S.rf
  have hl := lv_entry [.ref hm, .int a] (n := 2) (Nat.le_of_ble_eq_true rfl)
  rw [lg_entry_eq]
  generalize (lg_sl [.ref hm, .int a] ++ List.replicate (2 - (lg_sl [.ref hm, .int a]).length) Slot.unset).toArray = ls at hl ⊢
  have hl : lv_has ls 2 [(0, .ref hm), (1, .int a)] := hl
  have hl47 : (Cond.fieldLink RX8 47 "InertialReference" "shelf" "LInertialReference$AttitudeShelf;").before #[Value.ref hm, Value.int a] s = true := zw hts 1 rfl
  have hinX8 : ∀ w ∈ u_ws RX8 TX8 14, w ∈ wsX8_storedNumber := fun w h => List.mem_cons_of_mem _ (List.mem_append_left _ (List.mem_append_right _ h))
  refine lv_aload_n hx hb dX8_storedNumber_0 rfl (lv_at hl 0 rfl) ?_
  refine va_get (D := D) (ci := 7) (v := .ref f0) (C := RX8) (T := TX8) (N := 14) hx hb hts hinX8 hown hK hP 0 rfl rfl 5 (Nat.le_of_ble_eq_true rfl) hl47 (fun _ h9 => h9) rfl dX8_storedNumber_1 ?_
  refine lv_iload_n hx hb dX8_storedNumber_4 rfl (lv_at hl 1 rfl) ?_
  refine z_calli0 (wc := [(f0, .inr (1, [.ref f1, .ref f2, .ref f3, .int (nI (u.2.2.1 1))])), (f1, zaI k 30 (u.2.1 10))]) (wr := [(hm, .inr (7, [.ref p0, .ref c0, .ref n0, .ref b0, .ref e0, .ref f0, .ref l1, .ref l2, .ref l3, .ref l4, .ref l5, .int (u.2.1 11 2), .int (msk (u.2.2.2 1)), .long (u.1 9 0)]))]) (va_runV (As := [.int a]) (rest := []) ⟨hx, hb, hml, hown, hts⟩ (c_X1_numberAt l D k s.heap.size f0 f1 f2 f3 (u.2.2.1 1) (u.2.1 10) (fun _ => 0) (fun _ => 0) a hn) (cwV 1 hts gX8_storedNumber_X1_numberAt rfl rfl rfl (by decide +kernel) ⟨Nat.le_of_ble_eq_true rfl, Nat.le_of_ble_eq_true rfl⟩) (z_preV (wc := [(f0, .inr (1, [.ref f1, .ref f2, .ref f3, .int (nI (u.2.2.1 1))])), (f1, zaI k 30 (u.2.1 10))]) 1 1 hP hD hK [1, 2] rfl rfl rfl rfl zb0 zp0) rfl rfl hl.1 rfl (lv_room (Nat.le_of_ble_eq_true rfl)) dX8_storedNumber_5 ⟨Nat.zero_le _, Nat.zero_le _⟩) hP hD hS hA [1, 2] [0] rfl rfl rfl (by decide) (fun w H locs hF hP hD hS => ?_)
  subst hF
  have hP : va_P D vwCl [(hm, .inr (7, [.ref p0, .ref c0, .ref n0, .ref b0, .ref e0, .ref f0, .ref l1, .ref l2, .ref l3, .ref l4, .ref l5, .int (u.2.1 11 2), .int (msk (u.2.2.2 1)), .long (u.1 9 0)])), (f0, .inr (1, [.ref f1, .ref f2, .ref f3, .int (nI (u.2.2.1 1))])), (f1, zaI k 30 (u.2.1 10))] H := hP
  have hD : va_D A [(hm, .inr (7, [.ref p0, .ref c0, .ref n0, .ref b0, .ref e0, .ref f0, .ref l1, .ref l2, .ref l3, .ref l4, .ref l5, .int (u.2.1 11 2), .int (msk (u.2.2.2 1)), .long (u.1 9 0)])), (f0, .inr (1, [.ref f1, .ref f2, .ref f3, .int (nI (u.2.2.1 1))])), (f1, zaI k 30 (u.2.1 10))] := hD
  have hP9 := hP.sub (ws' := [(hm, .inr (7, [.ref p0, .ref c0, .ref n0, .ref b0, .ref e0, .ref f0, .ref l1, .ref l2, .ref l3, .ref l4, .ref l5, .int (u.2.1 11 2), .int (msk (u.2.2.2 1)), .long (u.1 9 0)])), (f0, .inr (1, [.ref f1, .ref f2, .ref f3, .int (nI (u.2.2.1 1))])), (f1, zaI k 30 (u.2.1 10))]) [0, 1, 2] rfl
  have hD9 := hD.sub (ws' := [(hm, .inr (7, [.ref p0, .ref c0, .ref n0, .ref b0, .ref e0, .ref f0, .ref l1, .ref l2, .ref l3, .ref l4, .ref l5, .int (u.2.1 11 2), .int (msk (u.2.2.2 1)), .long (u.1 9 0)])), (f0, .inr (1, [.ref f1, .ref f2, .ref f3, .int (nI (u.2.2.1 1))])), (f1, zaI k 30 (u.2.1 10))]) [0, 1, 2] (by decide) rfl
  exact W.iret (v := if zin a 0 (((u.2.2.1 1) : Int) - 1) then (u.2.1 10) a.toNatClampNeg else -1) hx hb hr (fun t9 ht9 hW9 => ⟨⟨(if zin a 0 (((u.2.2.1 1) : Int) - 1) then (u.2.1 10) a.toNatClampNeg else -1), [(hm, .inr (7, [.ref p0, .ref c0, .ref n0, .ref b0, .ref e0, .ref f0, .ref l1, .ref l2, .ref l3, .ref l4, .ref l5, .int (u.2.1 11 2), .int (msk (u.2.2.2 1)), .long (u.1 9 0)])), (f0, .inr (1, [.ref f1, .ref f2, .ref f3, .int (nI (u.2.2.1 1))])), (f1, zaI k 30 (u.2.1 10))], rfl, ⟨by rfl, rfl⟩, by rw [ht9]; exact hP9, hD9⟩, hS.F ht9⟩) hS.2.2 dX8_storedNumber_8
