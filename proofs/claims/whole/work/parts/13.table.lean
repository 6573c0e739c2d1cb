set_option maxHeartbeats 4000000 in
set_option maxRecDepth 100000 in
theorem c_X3_hasBin (l : Launch) (D : va_G) (k : Nat → ClassId) (sz : Nat) (b : Int32) : Met l yX3_hasBin wsX3_hasBin ({ frames := 0, cells := 0, slots := 0, locals := 0 } : Room) (va_Pc [.int b] (zPre D k [] sz zX0)) (zQi D [] sz (zb (zin b (-4) 8)) (fun w : va_W => w = [])) 0 0 (va_A [] sz) := by
  refine Met.ofW (cc := cX3_hasBin) (maxL := 1) (ret := (some .boolean)) (by decide) rfl ?_
  intro p e s m args below meth c s₁ B hml hv
  obtain ⟨rfl, hsz, hP, hK, hD0, hE⟩ := hv
  have hx := B.exec
  have hb := B.bytes
  have hr := B.returns
  have hts := atoms_spec (ws := wsX3_hasBin) B.pre
  have hown : s.vm.findClass RX3 = some m.cls := findClass_of_methodNamed B.named
  have hlocks := B.notSynchronized
  subst hsz
  have hD := hD0.self (sz := s.heap.size)
  delta zQi zB
  generalize hAe : va_A [] s.heap.size = A at hD hE ⊢
  have hA : ∀ q : Nat, s.heap.size ≤ q → A q := fun q h => by rw [← hAe]; exact Or.inr h
  have hS : va_S A s.heap s.heap [] := va_S.rf
  have hl := lv_entry [.int b] (n := 1) (Nat.le_of_ble_eq_true rfl)
  rw [lg_entry_eq]
  generalize (lg_sl [.int b] ++ List.replicate (1 - (lg_sl [.int b]).length) Slot.unset).toArray = ls at hl ⊢
  have hl : lv_has ls 1 [(0, .int b)] := hl
  refine lv_iload_n hx hb dX3_hasBin_0 rfl (lv_at hl 0 rfl) ?_
  refine lv_bipush (v := (-4)) hx hb dX3_hasBin_1 (by decide) ?_
  refine lv_icmp_lt (tgt := 16) hx hb dX3_hasBin_3 (by decide) (fun c_1 => ?_) (fun c_1 => ?_)
  · skip
    have c_1 : b.toInt < (-4) := zlt c_1 rfl (by decide)
    refine lv_iconst (v := 0) hx hb dX3_hasBin_16 (by decide) ?_
    have hP9 := hP.sub (ws' := []) [] rfl
    have hD9 := hD.sub (ws' := []) [] (by decide) rfl
    exact W.zret (v := 0) hx hb hr rfl (fun t9 ht9 hW9 => ⟨⟨0, [], rfl, ⟨by (exact zb_f (zin_f (by omega))), rfl⟩, by rw [ht9]; exact hP9, hD9⟩, hS.F ht9⟩) hS.2.2 dX3_hasBin_17
  · skip
    have c_1 : (-4) ≤ b.toInt := znlt c_1 rfl (by decide)
    refine lv_iload_n hx hb dX3_hasBin_6 rfl (lv_at hl 0 rfl) ?_
    refine lv_bipush (v := 9) hx hb dX3_hasBin_7 (by decide) ?_
    refine lv_icmp_ge (tgt := 16) hx hb dX3_hasBin_9 (by decide) (fun c_2 => ?_) (fun c_2 => ?_)
    · skip
      have c_2 : 9 ≤ b.toInt := zle c_2 (by decide) rfl
      refine lv_iconst (v := 0) hx hb dX3_hasBin_16 (by decide) ?_
      have hP9 := hP.sub (ws' := []) [] rfl
      have hD9 := hD.sub (ws' := []) [] (by decide) rfl
      exact W.zret (v := 0) hx hb hr rfl (fun t9 ht9 hW9 => ⟨⟨0, [], rfl, ⟨by (exact zb_f (zin_f (by omega))), rfl⟩, by rw [ht9]; exact hP9, hD9⟩, hS.F ht9⟩) hS.2.2 dX3_hasBin_17
    · skip
      have c_2 : b.toInt < 9 := znle c_2 (by decide) rfl
      refine lv_iconst (v := 1) hx hb dX3_hasBin_12 (by decide) ?_
      refine lv_goto (tgt := 17) hx hb dX3_hasBin_13 (by decide) ?_
      have hP9 := hP.sub (ws' := []) [] rfl
      have hD9 := hD.sub (ws' := []) [] (by decide) rfl
      exact W.zret (v := 1) hx hb hr rfl (fun t9 ht9 hW9 => ⟨⟨1, [], rfl, ⟨by (exact zb_t (zin_t (by omega))), rfl⟩, by rw [ht9]; exact hP9, hD9⟩, hS.F ht9⟩) hS.2.2 dX3_hasBin_17
set_option maxHeartbeats 4000000 in
set_option maxRecDepth 100000 in
theorem c_X3_column (l : Launch) (D : va_G) (k : Nat → ClassId) (sz : Nat) (b : Int32) : Met l yX3_column wsX3_column ({ frames := 0, cells := 0, slots := 0, locals := 0 } : Room) (va_Pc [.int b] (zPre D k [] sz zX0)) (zQi D [] sz (b - (-4)) (fun w : va_W => w = [])) 0 0 (va_A [] sz) := by
  refine Met.ofW (cc := cX3_column) (maxL := 1) (ret := (some .int)) (by decide) rfl ?_
  intro p e s m args below meth c s₁ B hml hv
  obtain ⟨rfl, hsz, hP, hK, hD0, hE⟩ := hv
  have hx := B.exec
  have hb := B.bytes
  have hr := B.returns
  have hts := atoms_spec (ws := wsX3_column) B.pre
  have hown : s.vm.findClass RX3 = some m.cls := findClass_of_methodNamed B.named
  have hlocks := B.notSynchronized
  subst hsz
  have hD := hD0.self (sz := s.heap.size)
  delta zQi zB
  generalize hAe : va_A [] s.heap.size = A at hD hE ⊢
  have hA : ∀ q : Nat, s.heap.size ≤ q → A q := fun q h => by rw [← hAe]; exact Or.inr h
  have hS : va_S A s.heap s.heap [] := va_S.rf
  have hl := lv_entry [.int b] (n := 1) (Nat.le_of_ble_eq_true rfl)
  rw [lg_entry_eq]
  generalize (lg_sl [.int b] ++ List.replicate (1 - (lg_sl [.int b]).length) Slot.unset).toArray = ls at hl ⊢
  have hl : lv_has ls 1 [(0, .int b)] := hl
  refine lv_iload_n hx hb dX3_column_0 rfl (lv_at hl 0 rfl) ?_
  refine lv_bipush (v := (-4)) hx hb dX3_column_1 (by decide) ?_
  refine lv_isub hx hb dX3_column_3 ?_
  have hP9 := hP.sub (ws' := []) [] rfl
  have hD9 := hD.sub (ws' := []) [] (by decide) rfl
  exact W.iret (v := b - (-4)) hx hb hr (fun t9 ht9 hW9 => ⟨⟨(b - (-4)), [], rfl, ⟨rfl, rfl⟩, by rw [ht9]; exact hP9, hD9⟩, hS.F ht9⟩) hS.2.2 dX3_column_4
set_option maxHeartbeats 4000000 in
set_option maxRecDepth 100000 in
theorem c_X3_placeOf_ok (l : Launch) (D : va_G) (k : Nat → ClassId) (sz : Nat) (i : Nat) (b : Int32) (hi : i < 3) (hb3 : zin b (-4) 8 = true) : Met l yX3_placeOf wsX3_placeOf ({ frames := 1, cells := 0, slots := 0, locals := 20 } : Room) (va_Pc [.int (nI i), .int b] (zPre D k [] sz zX0)) (zQi D [] sz (nI (i * 13 + cb b)) (fun w : va_W => w = [])) 0 0 (va_A [] sz) := by
  refine Met.ofW (cc := cX3_placeOf) (maxL := 2) (ret := (some .int)) (by decide) rfl ?_
  intro p e s m args below meth c s₁ B hml hv
  obtain ⟨rfl, hsz, hP, hK, hD0, hE⟩ := hv
  have hx := B.exec
  have hb := B.bytes
  have hr := B.returns
  have hts := atoms_spec (ws := wsX3_placeOf) B.pre
  have hown : s.vm.findClass RX3 = some m.cls := findClass_of_methodNamed B.named
  have hlocks := B.notSynchronized
  subst hsz
  have hD := hD0.self (sz := s.heap.size)
  delta zQi zB
  generalize hAe : va_A [] s.heap.size = A at hD hE ⊢
  have hA : ∀ q : Nat, s.heap.size ≤ q → A q := fun q h => by rw [← hAe]; exact Or.inr h
  have hS : va_S A s.heap s.heap [] := va_S.rf
  have hl := lv_entry [.int (nI i), .int b] (n := 2) (Nat.le_of_ble_eq_true rfl)
  rw [lg_entry_eq]
  generalize (lg_sl [.int (nI i), .int b] ++ List.replicate (2 - (lg_sl [.int (nI i), .int b]).length) Slot.unset).toArray = ls at hl ⊢
  have hl : lv_has ls 2 [(0, .int (nI i)), (1, .int b)] := hl
  refine lv_iload_n hx hb dX3_placeOf_0 rfl (lv_at hl 0 rfl) ?_
  refine z_calli0 (wc := []) (wr := []) (va_runS (As := [.int (nI i)]) (rest := []) ⟨hx, hb, hml, hown, hts⟩ (c_X5_isAxis l D k s.heap.size (nI i)) (va_cwS 1 hts gX3_placeOf_X5_isAxis rfl rfl rfl (by decide +kernel) ⟨Nat.le_of_ble_eq_true rfl, Nat.le_of_ble_eq_true rfl⟩) (z_preS (wc := []) hP hD hK [] rfl rfl zb0 zp0) rfl rfl hl.1 rfl (lv_room (Nat.le_of_ble_eq_true rfl)) dX3_placeOf_1 ⟨Nat.zero_le _, Nat.zero_le _⟩) hP hD hS hA [] [] rfl rfl rfl (by decide) (fun w H locs hF hP hD hS => ?_)
  subst hF
  refine lv_if_eq (tgt := 26) hx hb dX3_placeOf_4 (by decide) (fun c => absurd c (by rw [zin_t (by rw [nI_toInt (by omega)]; omega)]; decide)) (fun c => ?_)
  refine lv_iload_n hx hb dX3_placeOf_7 rfl (lv_at hl 1 rfl) ?_
  refine z_calli0 (wc := []) (wr := []) (va_runS (As := [.int b]) (rest := []) ⟨hx, hb, hml, hown, hts⟩ (c_X3_hasBin l D k H.size b) (va_cwS 1 hts gX3_placeOf_X3_hasBin rfl rfl rfl (by decide +kernel) ⟨Nat.le_of_ble_eq_true rfl, Nat.le_of_ble_eq_true rfl⟩) (z_preS (wc := []) hP hD hK [] rfl rfl zb0 zp0) rfl rfl hl.1 rfl (lv_room (Nat.le_of_ble_eq_true rfl)) dX3_placeOf_8 ⟨Nat.zero_le _, Nat.zero_le _⟩) hP hD hS hA [] [] rfl rfl rfl (by decide) (fun w H locs hF hP hD hS => ?_)
  subst hF
  refine lv_if_eq (tgt := 26) hx hb dX3_placeOf_11 (by decide) (fun c => absurd c (by rw [hb3]; decide)) (fun c => ?_)
  refine lv_iload_n hx hb dX3_placeOf_14 rfl (lv_at hl 0 rfl) ?_
  refine lv_bipush (v := 13) hx hb dX3_placeOf_15 (by decide) ?_
  refine lv_imul hx hb dX3_placeOf_17 ?_
  refine lv_iload_n hx hb dX3_placeOf_18 rfl (lv_at hl 1 rfl) ?_
  refine z_calli0 (wc := []) (wr := []) (va_runS (As := [.int b]) (rest := [.int ((nI i) * 13)]) ⟨hx, hb, hml, hown, hts⟩ (c_X3_column l D k H.size b) (va_cwS 1 hts gX3_placeOf_X3_column rfl rfl rfl (by decide +kernel) ⟨Nat.le_of_ble_eq_true rfl, Nat.le_of_ble_eq_true rfl⟩) (z_preS (wc := []) hP hD hK [] rfl rfl zb0 zp0) rfl rfl hl.1 rfl (lv_room (Nat.le_of_ble_eq_true rfl)) dX3_placeOf_19 ⟨Nat.zero_le _, Nat.zero_le _⟩) hP hD hS hA [] [] rfl rfl rfl (by decide) (fun w H locs hF hP hD hS => ?_)
  subst hF
  refine lv_iadd hx hb dX3_placeOf_22 ?_
  refine lv_goto (tgt := 27) hx hb dX3_placeOf_23 (by decide) ?_
  have hP9 := hP.sub (ws' := []) [] rfl
  have hD9 := hD.sub (ws' := []) [] (by decide) rfl
  exact W.iret (v := ((nI i) * 13) + (b - (-4))) hx hb hr (fun t9 ht9 hW9 => ⟨⟨(((nI i) * 13) + (b - (-4))), [], rfl, ⟨by (rw [cb_nI hb3]; exact pl_nI i (cb b)), rfl⟩, by rw [ht9]; exact hP9, hD9⟩, hS.F ht9⟩) hS.2.2 dX3_placeOf_27
set_option maxHeartbeats 4000000 in
set_option maxRecDepth 100000 in
theorem c_X3_placeOf_no (l : Launch) (D : va_G) (k : Nat → ClassId) (sz : Nat) (a b : Int32) (hno : (zin a 0 2 && zin b (-4) 8) = false) : Met l yX3_placeOf wsX3_placeOf ({ frames := 1, cells := 0, slots := 0, locals := 20 } : Room) (va_Pc [.int a, .int b] (zPre D k [] sz zX0)) (zQi D [] sz (-1) (fun w : va_W => w = [])) 0 0 (va_A [] sz) := by
  refine Met.ofW (cc := cX3_placeOf) (maxL := 2) (ret := (some .int)) (by decide) rfl ?_
  intro p e s m args below meth c s₁ B hml hv
  obtain ⟨rfl, hsz, hP, hK, hD0, hE⟩ := hv
  have hx := B.exec
  have hb := B.bytes
  have hr := B.returns
  have hts := atoms_spec (ws := wsX3_placeOf) B.pre
  have hown : s.vm.findClass RX3 = some m.cls := findClass_of_methodNamed B.named
  have hlocks := B.notSynchronized
  subst hsz
  have hD := hD0.self (sz := s.heap.size)
  delta zQi zB
  generalize hAe : va_A [] s.heap.size = A at hD hE ⊢
  have hA : ∀ q : Nat, s.heap.size ≤ q → A q := fun q h => by rw [← hAe]; exact Or.inr h
  have hS : va_S A s.heap s.heap [] := va_S.rf
  have hl := lv_entry [.int a, .int b] (n := 2) (Nat.le_of_ble_eq_true rfl)
  rw [lg_entry_eq]
  generalize (lg_sl [.int a, .int b] ++ List.replicate (2 - (lg_sl [.int a, .int b]).length) Slot.unset).toArray = ls at hl ⊢
  have hl : lv_has ls 2 [(0, .int a), (1, .int b)] := hl
  refine lv_iload_n hx hb dX3_placeOf_0 rfl (lv_at hl 0 rfl) ?_
  refine z_calli0 (wc := []) (wr := []) (va_runS (As := [.int a]) (rest := []) ⟨hx, hb, hml, hown, hts⟩ (c_X5_isAxis l D k s.heap.size a) (va_cwS 1 hts gX3_placeOf_X5_isAxis rfl rfl rfl (by decide +kernel) ⟨Nat.le_of_ble_eq_true rfl, Nat.le_of_ble_eq_true rfl⟩) (z_preS (wc := []) hP hD hK [] rfl rfl zb0 zp0) rfl rfl hl.1 rfl (lv_room (Nat.le_of_ble_eq_true rfl)) dX3_placeOf_1 ⟨Nat.zero_le _, Nat.zero_le _⟩) hP hD hS hA [] [] rfl rfl rfl (by decide) (fun w H locs hF hP hD hS => ?_)
  subst hF
  refine lv_if_eq (tgt := 26) hx hb dX3_placeOf_4 (by decide) (fun c_1 => ?_) (fun c_1 => ?_)
  · skip
    have c_1 := zb_e c_1
    refine lv_iconst (v := (-1)) hx hb dX3_placeOf_26 (by decide) ?_
    have hP9 := hP.sub (ws' := []) [] rfl
    have hD9 := hD.sub (ws' := []) [] (by decide) rfl
    exact W.iret (v := (-1)) hx hb hr (fun t9 ht9 hW9 => ⟨⟨(-1), [], rfl, ⟨rfl, rfl⟩, by rw [ht9]; exact hP9, hD9⟩, hS.F ht9⟩) hS.2.2 dX3_placeOf_27
  · skip
    have c_1 := zb_n c_1
    refine lv_iload_n hx hb dX3_placeOf_7 rfl (lv_at hl 1 rfl) ?_
    refine z_calli0 (wc := []) (wr := []) (va_runS (As := [.int b]) (rest := []) ⟨hx, hb, hml, hown, hts⟩ (c_X3_hasBin l D k H.size b) (va_cwS 1 hts gX3_placeOf_X3_hasBin rfl rfl rfl (by decide +kernel) ⟨Nat.le_of_ble_eq_true rfl, Nat.le_of_ble_eq_true rfl⟩) (z_preS (wc := []) hP hD hK [] rfl rfl zb0 zp0) rfl rfl hl.1 rfl (lv_room (Nat.le_of_ble_eq_true rfl)) dX3_placeOf_8 ⟨Nat.zero_le _, Nat.zero_le _⟩) hP hD hS hA [] [] rfl rfl rfl (by decide) (fun w H locs hF hP hD hS => ?_)
    subst hF
    refine lv_if_eq (tgt := 26) hx hb dX3_placeOf_11 (by decide) (fun c_2 => ?_) (fun c_2 => ?_)
    · skip
      have c_2 := zb_e c_2
      refine lv_iconst (v := (-1)) hx hb dX3_placeOf_26 (by decide) ?_
      have hP9 := hP.sub (ws' := []) [] rfl
      have hD9 := hD.sub (ws' := []) [] (by decide) rfl
      exact W.iret (v := (-1)) hx hb hr (fun t9 ht9 hW9 => ⟨⟨(-1), [], rfl, ⟨rfl, rfl⟩, by rw [ht9]; exact hP9, hD9⟩, hS.F ht9⟩) hS.2.2 dX3_placeOf_27
    · skip
      have c_2 := zb_n c_2
      rw [c_1, c_2] at hno; exact absurd hno (by decide)
set_option maxHeartbeats 4000000 in
set_option maxRecDepth 100000 in
theorem c_X3_value_ok (l : Launch) (D : va_G) (k : Nat → ClassId) (sz : Nat) (h a0 a1 : Nat) (fV : Nat → Int32) (kn : Nat → Bool) (i : Nat) (b : Int32) (hi : i < 3) (hb3 : zin b (-4) 8 = true) : Met l yX3_value wsX3_value ({ frames := 2, cells := 0, slots := 0, locals := 41 } : Room) (va_Pc [.ref h, .int (nI i), .int b] (zPre D k [(h, .inr (3, [.ref a0, .ref a1, .int (nI (cntB kn 39))])), (a0, zaI k 39 fV), (a1, zaZ k 39 (zk kn))] sz zX0)) (zQi D [(h, .inr (3, [.ref a0, .ref a1, .int (nI (cntB kn 39))])), (a0, zaI k 39 fV), (a1, zaZ k 39 (zk kn))] sz (fV (i * 13 + cb b)) (fun w : va_W => w = [(h, .inr (3, [.ref a0, .ref a1, .int (nI (cntB kn 39))])), (a0, zaI k 39 fV), (a1, zaZ k 39 (zk kn))])) 0 0 (va_A [(h, .inr (3, [.ref a0, .ref a1, .int (nI (cntB kn 39))])), (a0, zaI k 39 fV), (a1, zaZ k 39 (zk kn))] sz) := by
  refine Met.ofW (cc := cX3_value) (maxL := 4) (ret := (some .int)) (by decide) rfl ?_
  intro p e s m args below meth c s₁ B hml hv
  obtain ⟨rfl, hsz, hP, hK, hD0, hE⟩ := hv
  have hx := B.exec
  have hb := B.bytes
  have hr := B.returns
  have hts := atoms_spec (ws := wsX3_value) B.pre
  have hown : s.vm.findClass RX3 = some m.cls := findClass_of_methodNamed B.named
  have hlocks := B.notSynchronized
  subst hsz
  have hD := hD0.self (sz := s.heap.size)
  delta zQi zB
  generalize hAe : va_A [(h, .inr (3, [.ref a0, .ref a1, .int (nI (cntB kn 39))])), (a0, zaI k 39 fV), (a1, zaZ k 39 (zk kn))] s.heap.size = A at hD hE ⊢
  have hA : ∀ q : Nat, s.heap.size ≤ q → A q := fun q h => by rw [← hAe]; exact Or.inr h
  have hS : va_S A s.heap s.heap [] := va_S.rf
  have hl := lv_entry [.ref h, .int (nI i), .int b] (n := 4) (Nat.le_of_ble_eq_true rfl)
  rw [lg_entry_eq]
  generalize (lg_sl [.ref h, .int (nI i), .int b] ++ List.replicate (4 - (lg_sl [.ref h, .int (nI i), .int b]).length) Slot.unset).toArray = ls at hl ⊢
  have hl : lv_has ls 4 [(0, .ref h), (1, .int (nI i)), (2, .int b)] := hl
  have hl11 : (Cond.fieldLink RX3 11 "InertialReference$CompensationTable" "values" "[I").before #[Value.ref h, Value.int (nI i), Value.int b] s = true := zw hts 1 rfl
  have hinX3 : ∀ w ∈ u_ws RX3 TX3 3, w ∈ wsX3_value := fun w h => List.mem_cons_of_mem _ (List.mem_append_right _ h)
  have hcb := cb_lt hb3
  refine lv_iload_n hx hb dX3_value_0 rfl (lv_at hl 1 rfl) ?_
  refine lv_iload_n hx hb dX3_value_1 rfl (lv_at hl 2 rfl) ?_
  refine z_calli0 (wc := []) (wr := [(h, .inr (3, [.ref a0, .ref a1, .int (nI (cntB kn 39))])), (a0, zaI k 39 fV), (a1, zaZ k 39 (zk kn))]) (va_runS (As := [.int (nI i), .int b]) (rest := []) ⟨hx, hb, hml, hown, hts⟩ (c_X3_placeOf_ok l D k s.heap.size i b hi hb3) (va_cwS 2 hts gX3_value_X3_placeOf rfl rfl rfl (by decide +kernel) ⟨Nat.le_of_ble_eq_true rfl, Nat.le_of_ble_eq_true rfl⟩) (z_preS (wc := []) hP hD hK [] rfl rfl zb0 zp0) rfl rfl hl.1 rfl (lv_room (Nat.le_of_ble_eq_true rfl)) dX3_value_2 ⟨Nat.zero_le _, Nat.zero_le _⟩) hP hD hS hA [] [0, 1, 2] rfl rfl rfl (by decide) (fun w H locs hF hP hD hS => ?_)
  subst hF
  have hP : va_P D vwCl [(h, .inr (3, [.ref a0, .ref a1, .int (nI (cntB kn 39))])), (a0, zaI k 39 fV), (a1, zaZ k 39 (zk kn))] H := hP
  have hD : va_D A [(h, .inr (3, [.ref a0, .ref a1, .int (nI (cntB kn 39))])), (a0, zaI k 39 fV), (a1, zaZ k 39 (zk kn))] := hD
  refine lv_istore_n (lv' := [(3, .int (nI (i * 13 + cb b))), (0, .ref h), (1, .int (nI i)), (2, .int b)]) hx hb dX3_value_5 rfl hl (by decide) rfl (fun ls hl => ?_)
  refine lv_iload_n hx hb dX3_value_6 rfl (lv_at hl 0 rfl) ?_
  refine lv_iconst (v := (-1)) hx hb dX3_value_7 (by decide) ?_
  refine lv_icmp_ne (tgt := 15) hx hb dX3_value_8 (by decide) (fun c => ?_) (fun c => absurd c (nI_nm1 (by omega)))
  refine lv_aload_n hx hb dX3_value_15 rfl (lv_at hl 1 rfl) ?_
  refine va_get (D := D) (ci := 3) (v := .ref a0) (C := RX3) (T := TX3) (N := 3) hx hb hts hinX3 hown hK hP 0 rfl rfl 0 (Nat.le_of_ble_eq_true rfl) hl11 (fun _ h9 => h9) rfl dX3_value_16 ?_
  refine lv_iload_n hx hb dX3_value_19 rfl (lv_at hl 0 rfl) ?_
  refine z_iald hx hb hK hP 1 rfl (i * 13 + cb b) (zxn (by omega)) (by omega) (v := fV (i * 13 + cb b)) rfl dX3_value_20 ?_
  have hP9 := hP.sub (ws' := [(h, .inr (3, [.ref a0, .ref a1, .int (nI (cntB kn 39))])), (a0, zaI k 39 fV), (a1, zaZ k 39 (zk kn))]) [0, 1, 2] rfl
  have hD9 := hD.sub (ws' := [(h, .inr (3, [.ref a0, .ref a1, .int (nI (cntB kn 39))])), (a0, zaI k 39 fV), (a1, zaZ k 39 (zk kn))]) [0, 1, 2] (by decide) rfl
  exact W.iret (v := fV (i * 13 + cb b)) hx hb hr (fun t9 ht9 hW9 => ⟨⟨(fV (i * 13 + cb b)), [(h, .inr (3, [.ref a0, .ref a1, .int (nI (cntB kn 39))])), (a0, zaI k 39 fV), (a1, zaZ k 39 (zk kn))], rfl, ⟨rfl, rfl⟩, by rw [ht9]; exact hP9, hD9⟩, hS.F ht9⟩) hS.2.2 dX3_value_21
set_option maxHeartbeats 4000000 in
set_option maxRecDepth 100000 in
theorem c_X3_value_no (l : Launch) (D : va_G) (k : Nat → ClassId) (sz : Nat) (h a0 a1 : Nat) (fV : Nat → Int32) (kn : Nat → Bool) (a b : Int32) (hno : (zin a 0 2 && zin b (-4) 8) = false) : Met l yX3_value wsX3_value ({ frames := 2, cells := 0, slots := 0, locals := 41 } : Room) (va_Pc [.ref h, .int a, .int b] (zPre D k [(h, .inr (3, [.ref a0, .ref a1, .int (nI (cntB kn 39))])), (a0, zaI k 39 fV), (a1, zaZ k 39 (zk kn))] sz zX0)) (zQi D [(h, .inr (3, [.ref a0, .ref a1, .int (nI (cntB kn 39))])), (a0, zaI k 39 fV), (a1, zaZ k 39 (zk kn))] sz 0 (fun w : va_W => w = [(h, .inr (3, [.ref a0, .ref a1, .int (nI (cntB kn 39))])), (a0, zaI k 39 fV), (a1, zaZ k 39 (zk kn))])) 0 0 (va_A [(h, .inr (3, [.ref a0, .ref a1, .int (nI (cntB kn 39))])), (a0, zaI k 39 fV), (a1, zaZ k 39 (zk kn))] sz) := by
  refine Met.ofW (cc := cX3_value) (maxL := 4) (ret := (some .int)) (by decide) rfl ?_
  intro p e s m args below meth c s₁ B hml hv
  obtain ⟨rfl, hsz, hP, hK, hD0, hE⟩ := hv
  have hx := B.exec
  have hb := B.bytes
  have hr := B.returns
  have hts := atoms_spec (ws := wsX3_value) B.pre
  have hown : s.vm.findClass RX3 = some m.cls := findClass_of_methodNamed B.named
  have hlocks := B.notSynchronized
  subst hsz
  have hD := hD0.self (sz := s.heap.size)
  delta zQi zB
  generalize hAe : va_A [(h, .inr (3, [.ref a0, .ref a1, .int (nI (cntB kn 39))])), (a0, zaI k 39 fV), (a1, zaZ k 39 (zk kn))] s.heap.size = A at hD hE ⊢
  have hA : ∀ q : Nat, s.heap.size ≤ q → A q := fun q h => by rw [← hAe]; exact Or.inr h
  have hS : va_S A s.heap s.heap [] := va_S.rf
  have hl := lv_entry [.ref h, .int a, .int b] (n := 4) (Nat.le_of_ble_eq_true rfl)
  rw [lg_entry_eq]
  generalize (lg_sl [.ref h, .int a, .int b] ++ List.replicate (4 - (lg_sl [.ref h, .int a, .int b]).length) Slot.unset).toArray = ls at hl ⊢
  have hl : lv_has ls 4 [(0, .ref h), (1, .int a), (2, .int b)] := hl
  refine lv_iload_n hx hb dX3_value_0 rfl (lv_at hl 1 rfl) ?_
  refine lv_iload_n hx hb dX3_value_1 rfl (lv_at hl 2 rfl) ?_
  refine z_calli0 (wc := []) (wr := [(h, .inr (3, [.ref a0, .ref a1, .int (nI (cntB kn 39))])), (a0, zaI k 39 fV), (a1, zaZ k 39 (zk kn))]) (va_runS (As := [.int a, .int b]) (rest := []) ⟨hx, hb, hml, hown, hts⟩ (c_X3_placeOf_no l D k s.heap.size a b hno) (va_cwS 2 hts gX3_value_X3_placeOf rfl rfl rfl (by decide +kernel) ⟨Nat.le_of_ble_eq_true rfl, Nat.le_of_ble_eq_true rfl⟩) (z_preS (wc := []) hP hD hK [] rfl rfl zb0 zp0) rfl rfl hl.1 rfl (lv_room (Nat.le_of_ble_eq_true rfl)) dX3_value_2 ⟨Nat.zero_le _, Nat.zero_le _⟩) hP hD hS hA [] [0, 1, 2] rfl rfl rfl (by decide) (fun w H locs hF hP hD hS => ?_)
  subst hF
  have hP : va_P D vwCl [(h, .inr (3, [.ref a0, .ref a1, .int (nI (cntB kn 39))])), (a0, zaI k 39 fV), (a1, zaZ k 39 (zk kn))] H := hP
  have hD : va_D A [(h, .inr (3, [.ref a0, .ref a1, .int (nI (cntB kn 39))])), (a0, zaI k 39 fV), (a1, zaZ k 39 (zk kn))] := hD
  refine lv_istore_n (lv' := [(3, .int (-1)), (0, .ref h), (1, .int a), (2, .int b)]) hx hb dX3_value_5 rfl hl (by decide) rfl (fun ls hl => ?_)
  refine lv_iload_n hx hb dX3_value_6 rfl (lv_at hl 0 rfl) ?_
  refine lv_iconst (v := (-1)) hx hb dX3_value_7 (by decide) ?_
  refine lv_icmp_ne (tgt := 15) hx hb dX3_value_8 (by decide) (fun c => absurd c (by decide)) (fun _ => ?_)
  refine lv_iconst (v := 0) hx hb dX3_value_11 (by decide) ?_
  refine lv_goto (tgt := 21) hx hb dX3_value_12 (by decide) ?_
  have hP9 := hP.sub (ws' := [(h, .inr (3, [.ref a0, .ref a1, .int (nI (cntB kn 39))])), (a0, zaI k 39 fV), (a1, zaZ k 39 (zk kn))]) [0, 1, 2] rfl
  have hD9 := hD.sub (ws' := [(h, .inr (3, [.ref a0, .ref a1, .int (nI (cntB kn 39))])), (a0, zaI k 39 fV), (a1, zaZ k 39 (zk kn))]) [0, 1, 2] (by decide) rfl
  exact W.iret (v := 0) hx hb hr (fun t9 ht9 hW9 => ⟨⟨0, [(h, .inr (3, [.ref a0, .ref a1, .int (nI (cntB kn 39))])), (a0, zaI k 39 fV), (a1, zaZ k 39 (zk kn))], rfl, ⟨rfl, rfl⟩, by rw [ht9]; exact hP9, hD9⟩, hS.F ht9⟩) hS.2.2 dX3_value_21
set_option maxHeartbeats 4000000 in
set_option maxRecDepth 100000 in
theorem c_X3_put (l : Launch) (D : va_G) (k : Nat → ClassId) (sz : Nat) (h a0 a1 : Nat) (fV : Nat → Int32) (kn : Nat → Bool) (i : Nat) (b v : Int32) (hi : i < 3) (hb3 : zin b (-4) 8 = true) : Met l yX3_put wsX3_put ({ frames := 2, cells := 0, slots := 0, locals := 41 } : Room) (va_Pc [.ref h, .int (nI i), .int b, .int v] (zPre D k [(h, .inr (3, [.ref a0, .ref a1, .int (nI (cntB kn 39))])), (a0, zaI k 39 fV), (a1, zaZ k 39 (zk kn))] sz zX0)) (zQv D [(h, .inr (3, [.ref a0, .ref a1, .int (nI (cntB kn 39))])), (a0, zaI k 39 fV), (a1, zaZ k 39 (zk kn))] sz (fun w : va_W => w = [(h, .inr (3, [.ref a0, .ref a1, .int (nI (cntB (va_up kn (i * 13 + cb b) true) 39))])), (a0, zaI k 39 (upd fV (i * 13 + cb b) v)), (a1, zaZ k 39 (zk (va_up kn (i * 13 + cb b) true)))])) 0 0 (va_A [(h, .inr (3, [.ref a0, .ref a1, .int (nI (cntB kn 39))])), (a0, zaI k 39 fV), (a1, zaZ k 39 (zk kn))] sz) := by
  refine Met.ofW (cc := cX3_put) (maxL := 5) (ret := none) (by decide) rfl ?_
  intro p e s m args below meth c s₁ B hml hv
  obtain ⟨rfl, hsz, hP, hK, hD0, hE⟩ := hv
  have hx := B.exec
  have hb := B.bytes
  have hr := B.returns
  have hts := atoms_spec (ws := wsX3_put) B.pre
  have hown : s.vm.findClass RX3 = some m.cls := findClass_of_methodNamed B.named
  have hlocks := B.notSynchronized
  subst hsz
  have hD := hD0.self (sz := s.heap.size)
  delta zQv zB
  generalize hAe : va_A [(h, .inr (3, [.ref a0, .ref a1, .int (nI (cntB kn 39))])), (a0, zaI k 39 fV), (a1, zaZ k 39 (zk kn))] s.heap.size = A at hD hE ⊢
  have hA : ∀ q : Nat, s.heap.size ≤ q → A q := fun q h => by rw [← hAe]; exact Or.inr h
  have hS : va_S A s.heap s.heap [] := va_S.rf
  have hl := lv_entry [.ref h, .int (nI i), .int b, .int v] (n := 5) (Nat.le_of_ble_eq_true rfl)
  rw [lg_entry_eq]
  generalize (lg_sl [.ref h, .int (nI i), .int b, .int v] ++ List.replicate (5 - (lg_sl [.ref h, .int (nI i), .int b, .int v]).length) Slot.unset).toArray = ls at hl ⊢
  have hl : lv_has ls 5 [(0, .ref h), (1, .int (nI i)), (2, .int b), (3, .int v)] := hl
  have hl11 : (Cond.fieldLink RX3 11 "InertialReference$CompensationTable" "values" "[I").before #[Value.ref h, Value.int (nI i), Value.int b, Value.int v] s = true := zw hts 1 rfl
  have hinX3 : ∀ w ∈ u_ws RX3 TX3 3, w ∈ wsX3_put := fun w h => List.mem_cons_of_mem _ (List.mem_append_right _ h)
  have hl15 : (Cond.fieldLink RX3 15 "InertialReference$CompensationTable" "known" "[Z").before #[Value.ref h, Value.int (nI i), Value.int b, Value.int v] s = true := zw hts 2 rfl
  have hl36 : (Cond.fieldLink RX3 36 "InertialReference$CompensationTable" "size" "I").before #[Value.ref h, Value.int (nI i), Value.int b, Value.int v] s = true := zw hts 3 rfl
  have hcb := cb_lt hb3
  refine lv_iload_n hx hb dX3_put_0 rfl (lv_at hl 1 rfl) ?_
  refine lv_iload_n hx hb dX3_put_1 rfl (lv_at hl 2 rfl) ?_
  refine z_calli0 (wc := []) (wr := [(h, .inr (3, [.ref a0, .ref a1, .int (nI (cntB kn 39))])), (a0, zaI k 39 fV), (a1, zaZ k 39 (zk kn))]) (va_runS (As := [.int (nI i), .int b]) (rest := []) ⟨hx, hb, hml, hown, hts⟩ (c_X3_placeOf_ok l D k s.heap.size i b hi hb3) (va_cwS 2 hts gX3_put_X3_placeOf rfl rfl rfl (by decide +kernel) ⟨Nat.le_of_ble_eq_true rfl, Nat.le_of_ble_eq_true rfl⟩) (z_preS (wc := []) hP hD hK [] rfl rfl zb0 zp0) rfl rfl hl.1 rfl (lv_room (Nat.le_of_ble_eq_true rfl)) dX3_put_2 ⟨Nat.zero_le _, Nat.zero_le _⟩) hP hD hS hA [] [0, 1, 2] rfl rfl rfl (by decide) (fun w H locs hF hP hD hS => ?_)
  subst hF
  have hP : va_P D vwCl [(h, .inr (3, [.ref a0, .ref a1, .int (nI (cntB kn 39))])), (a0, zaI k 39 fV), (a1, zaZ k 39 (zk kn))] H := hP
  have hD : va_D A [(h, .inr (3, [.ref a0, .ref a1, .int (nI (cntB kn 39))])), (a0, zaI k 39 fV), (a1, zaZ k 39 (zk kn))] := hD
  refine lv_istore (lv' := [(4, .int (nI (i * 13 + cb b))), (0, .ref h), (1, .int (nI i)), (2, .int b), (3, .int v)]) hx hb dX3_put_5 hl (by decide) rfl (fun ls hl => ?_)
  refine lv_iload hx hb dX3_put_7 (lv_at hl 0 rfl) ?_
  refine lv_iconst (v := (-1)) hx hb dX3_put_9 (by decide) ?_
  refine lv_icmp_ne (tgt := 14) hx hb dX3_put_10 (by decide) (fun c => ?_) (fun c => absurd c (nI_nm1 (by omega)))
  refine lv_aload_n hx hb dX3_put_14 rfl (lv_at hl 1 rfl) ?_
  refine va_get (D := D) (ci := 3) (v := .ref a0) (C := RX3) (T := TX3) (N := 3) hx hb hts hinX3 hown hK hP 0 rfl rfl 0 (Nat.le_of_ble_eq_true rfl) hl11 (fun _ h9 => h9) rfl dX3_put_15 ?_
  refine lv_iload hx hb dX3_put_18 (lv_at hl 0 rfl) ?_
  refine lv_iload_n hx hb dX3_put_20 rfl (lv_at hl 4 rfl) ?_
  refine z_iast hx hb hK hP hD hS 1 rfl (i * 13 + cb b) (zxn (by omega)) (by omega) (ws' := [(h, .inr (3, [.ref a0, .ref a1, .int (nI (cntB kn 39))])), (a0, zaI k 39 (upd fV (i * 13 + cb b) v)), (a1, zaZ k 39 (zk kn))]) rfl dX3_put_21 (fun H locs hP hD hS => ?_)
  refine lv_aload_n hx hb dX3_put_22 rfl (lv_at hl 1 rfl) ?_
  refine va_get (D := D) (ci := 3) (v := .ref a1) (C := RX3) (T := TX3) (N := 3) hx hb hts hinX3 hown hK hP 0 rfl rfl 1 (Nat.le_of_ble_eq_true rfl) hl15 (fun _ h9 => h9) rfl dX3_put_23 ?_
  refine lv_iload hx hb dX3_put_26 (lv_at hl 0 rfl) ?_
  refine z_zald hx hb hK hP 2 rfl (i * 13 + cb b) (zxn (by omega)) (by omega) (v := zb (kn (i * 13 + cb b))) rfl dX3_put_28 ?_
  refine lv_if_ne (tgt := 50) hx hb dX3_put_29 (by decide) (fun c_1 => ?_) (fun c_1 => ?_)
  · skip
    have c_1 := zb_n c_1
    have hP := z_congO hP 0 rfl (fs2 := [.ref a0, .ref a1, .int (nI (cntB (va_up kn (i * 13 + cb b) true) 39))]) (by (rw [cnt_old (by omega) c_1])) (ws' := [(h, .inr (3, [.ref a0, .ref a1, .int (nI (cntB (va_up kn (i * 13 + cb b) true) 39))])), (a0, zaI k 39 (upd fV (i * 13 + cb b) v)), (a1, zaZ k 39 (zk kn))]) rfl
    have hD := z_congDO hD 0 rfl (fs2 := [.ref a0, .ref a1, .int (nI (cntB (va_up kn (i * 13 + cb b) true) 39))]) (ws' := [(h, .inr (3, [.ref a0, .ref a1, .int (nI (cntB (va_up kn (i * 13 + cb b) true) 39))])), (a0, zaI k 39 (upd fV (i * 13 + cb b) v)), (a1, zaZ k 39 (zk kn))]) rfl
    have hP := z_congZ hP 2 rfl (g := zk (va_up kn (i * 13 + cb b) true)) (by intro j9 hj9; exact zk_same true c_1 j9) (ws' := [(h, .inr (3, [.ref a0, .ref a1, .int (nI (cntB (va_up kn (i * 13 + cb b) true) 39))])), (a0, zaI k 39 (upd fV (i * 13 + cb b) v)), (a1, zaZ k 39 (zk (va_up kn (i * 13 + cb b) true)))]) rfl
    have hD := z_congDZ hD 2 rfl (g := zk (va_up kn (i * 13 + cb b) true)) (ws' := [(h, .inr (3, [.ref a0, .ref a1, .int (nI (cntB (va_up kn (i * 13 + cb b) true) 39))])), (a0, zaI k 39 (upd fV (i * 13 + cb b) v)), (a1, zaZ k 39 (zk (va_up kn (i * 13 + cb b) true)))]) rfl
    have hP9 := hP.sub (ws' := [(h, .inr (3, [.ref a0, .ref a1, .int (nI (cntB (va_up kn (i * 13 + cb b) true) 39))])), (a0, zaI k 39 (upd fV (i * 13 + cb b) v)), (a1, zaZ k 39 (zk (va_up kn (i * 13 + cb b) true)))]) [0, 1, 2] rfl
    have hD9 := hD.sub (ws' := [(h, .inr (3, [.ref a0, .ref a1, .int (nI (cntB (va_up kn (i * 13 + cb b) true) 39))])), (a0, zaI k 39 (upd fV (i * 13 + cb b) v)), (a1, zaZ k 39 (zk (va_up kn (i * 13 + cb b) true)))]) [0, 1, 2] (by decide) rfl
    exact W.vret hx hb hr (fun t9 ht9 hW9 => ⟨⟨[(h, .inr (3, [.ref a0, .ref a1, .int (nI (cntB (va_up kn (i * 13 + cb b) true) 39))])), (a0, zaI k 39 (upd fV (i * 13 + cb b) v)), (a1, zaZ k 39 (zk (va_up kn (i * 13 + cb b) true)))], rfl, rfl, by rw [ht9]; exact hP9, hD9⟩, hS.F ht9⟩) hS.2.2 dX3_put_50
  · skip
    have c_1 := zb_e c_1
    refine lv_aload_n hx hb dX3_put_32 rfl (lv_at hl 1 rfl) ?_
    refine va_get (D := D) (ci := 3) (v := .ref a1) (C := RX3) (T := TX3) (N := 3) hx hb hts hinX3 hown hK hP 0 rfl rfl 1 (Nat.le_of_ble_eq_true rfl) hl15 (fun _ h9 => h9) rfl dX3_put_33 ?_
    refine lv_iload hx hb dX3_put_36 (lv_at hl 0 rfl) ?_
    refine lv_iconst (v := 1) hx hb dX3_put_38 (by decide) ?_
    refine z_zast hx hb hK hP hD hS 2 rfl (i * 13 + cb b) (zxn (by omega)) (by omega) (v := 1) (by decide) (ws' := [(h, .inr (3, [.ref a0, .ref a1, .int (nI (cntB kn 39))])), (a0, zaI k 39 (upd fV (i * 13 + cb b) v)), (a1, zaZ k 39 (upd (zk kn) (i * 13 + cb b) 1))]) rfl dX3_put_39 (fun H locs hP hD hS => ?_)
    refine lv_aload_n hx hb dX3_put_40 rfl (lv_at hl 1 rfl) ?_
    refine lv_dup hx hb dX3_put_41 rfl ?_
    refine va_get (D := D) (ci := 3) (v := .int (nI (cntB kn 39))) (C := RX3) (T := TX3) (N := 3) hx hb hts hinX3 hown hK hP 0 rfl rfl 2 (Nat.le_of_ble_eq_true rfl) hl36 (fun _ h9 => h9) rfl dX3_put_42 ?_
    refine lv_iconst (v := 1) hx hb dX3_put_45 (by decide) ?_
    refine lv_iadd hx hb dX3_put_46 ?_
    refine W.eq (g2 := F0 m 47 ls (.int (nI ((cntB kn 39) + 1)) :: [.ref h])) (by rw [nI_1]) ?_
    refine va_put (D := D) (ci := 3) (v := .int (nI ((cntB kn 39) + 1))) (ty := .int) (C := RX3) (T := TX3) (N := 3) hx hb hts hinX3 tyX3 tyX3_ok nmX3 hown hK hP hD hS 0 rfl rfl 2 (Nat.le_of_ble_eq_true rfl) hl36 (fun _ h9 => h9) rfl  (by decide +kernel) rfl rfl (Nat.le_of_ble_eq_true rfl) dX3_put_47 (fun H locs hP hD hS => ?_)
    have hP : va_P D vwCl [(h, .inr (3, [.ref a0, .ref a1, .int (nI ((cntB kn 39) + 1))])), (a0, zaI k 39 (upd fV (i * 13 + cb b) v)), (a1, zaZ k 39 (upd (zk kn) (i * 13 + cb b) 1))] H := hP
    have hD : va_D A [(h, .inr (3, [.ref a0, .ref a1, .int (nI ((cntB kn 39) + 1))])), (a0, zaI k 39 (upd fV (i * 13 + cb b) v)), (a1, zaZ k 39 (upd (zk kn) (i * 13 + cb b) 1))] := hD
    have hP := z_congO hP 0 rfl (fs2 := [.ref a0, .ref a1, .int (nI (cntB (va_up kn (i * 13 + cb b) true) 39))]) (by (rw [cnt_new (by omega) c_1])) (ws' := [(h, .inr (3, [.ref a0, .ref a1, .int (nI (cntB (va_up kn (i * 13 + cb b) true) 39))])), (a0, zaI k 39 (upd fV (i * 13 + cb b) v)), (a1, zaZ k 39 (upd (zk kn) (i * 13 + cb b) 1))]) rfl
    have hD := z_congDO hD 0 rfl (fs2 := [.ref a0, .ref a1, .int (nI (cntB (va_up kn (i * 13 + cb b) true) 39))]) (ws' := [(h, .inr (3, [.ref a0, .ref a1, .int (nI (cntB (va_up kn (i * 13 + cb b) true) 39))])), (a0, zaI k 39 (upd fV (i * 13 + cb b) v)), (a1, zaZ k 39 (upd (zk kn) (i * 13 + cb b) 1))]) rfl
    have hP := z_congZ hP 2 rfl (g := zk (va_up kn (i * 13 + cb b) true)) (by intro j9 hj9; exact zk_upd kn (i * 13 + cb b) j9 true) (ws' := [(h, .inr (3, [.ref a0, .ref a1, .int (nI (cntB (va_up kn (i * 13 + cb b) true) 39))])), (a0, zaI k 39 (upd fV (i * 13 + cb b) v)), (a1, zaZ k 39 (zk (va_up kn (i * 13 + cb b) true)))]) rfl
    have hD := z_congDZ hD 2 rfl (g := zk (va_up kn (i * 13 + cb b) true)) (ws' := [(h, .inr (3, [.ref a0, .ref a1, .int (nI (cntB (va_up kn (i * 13 + cb b) true) 39))])), (a0, zaI k 39 (upd fV (i * 13 + cb b) v)), (a1, zaZ k 39 (zk (va_up kn (i * 13 + cb b) true)))]) rfl
    have hP9 := hP.sub (ws' := [(h, .inr (3, [.ref a0, .ref a1, .int (nI (cntB (va_up kn (i * 13 + cb b) true) 39))])), (a0, zaI k 39 (upd fV (i * 13 + cb b) v)), (a1, zaZ k 39 (zk (va_up kn (i * 13 + cb b) true)))]) [0, 1, 2] rfl
    have hD9 := hD.sub (ws' := [(h, .inr (3, [.ref a0, .ref a1, .int (nI (cntB (va_up kn (i * 13 + cb b) true) 39))])), (a0, zaI k 39 (upd fV (i * 13 + cb b) v)), (a1, zaZ k 39 (zk (va_up kn (i * 13 + cb b) true)))]) [0, 1, 2] (by decide) rfl
    exact W.vret hx hb hr (fun t9 ht9 hW9 => ⟨⟨[(h, .inr (3, [.ref a0, .ref a1, .int (nI (cntB (va_up kn (i * 13 + cb b) true) 39))])), (a0, zaI k 39 (upd fV (i * 13 + cb b) v)), (a1, zaZ k 39 (zk (va_up kn (i * 13 + cb b) true)))], rfl, rfl, by rw [ht9]; exact hP9, hD9⟩, hS.F ht9⟩) hS.2.2 dX3_put_50
set_option maxHeartbeats 4000000 in
set_option maxRecDepth 100000 in
theorem c_X3_removeBin_no (l : Launch) (D : va_G) (k : Nat → ClassId) (sz : Nat) (h a0 a1 : Nat) (fV : Nat → Int32) (kn : Nat → Bool) (b : Int32) (hb3 : zin b (-4) 8 = false) : Met l yX3_removeBin wsX3_removeBin ({ frames := 2, cells := 0, slots := 0, locals := 41 } : Room) (va_Pc [.ref h, .int b] (zPre D k [(h, .inr (3, [.ref a0, .ref a1, .int (nI (cntB kn 39))])), (a0, zaI k 39 fV), (a1, zaZ k 39 (zk kn))] sz zX0)) (zQi D [(h, .inr (3, [.ref a0, .ref a1, .int (nI (cntB kn 39))])), (a0, zaI k 39 fV), (a1, zaZ k 39 (zk kn))] sz 0 (fun w : va_W => w = [(h, .inr (3, [.ref a0, .ref a1, .int (nI (cntB kn 39))])), (a0, zaI k 39 fV), (a1, zaZ k 39 (zk kn))])) 0 0 (va_A [(h, .inr (3, [.ref a0, .ref a1, .int (nI (cntB kn 39))])), (a0, zaI k 39 fV), (a1, zaZ k 39 (zk kn))] sz) := by
  refine Met.ofW (cc := cX3_removeBin) (maxL := 5) (ret := (some .int)) (by decide) rfl ?_
  intro p e s m args below meth c s₁ B hml hv
  obtain ⟨rfl, hsz, hP, hK, hD0, hE⟩ := hv
  have hx := B.exec
  have hb := B.bytes
  have hr := B.returns
  have hts := atoms_spec (ws := wsX3_removeBin) B.pre
  have hown : s.vm.findClass RX3 = some m.cls := findClass_of_methodNamed B.named
  have hlocks := B.notSynchronized
  subst hsz
  have hD := hD0.self (sz := s.heap.size)
  delta zQi zB
  generalize hAe : va_A [(h, .inr (3, [.ref a0, .ref a1, .int (nI (cntB kn 39))])), (a0, zaI k 39 fV), (a1, zaZ k 39 (zk kn))] s.heap.size = A at hD hE ⊢
  have hA : ∀ q : Nat, s.heap.size ≤ q → A q := fun q h => by rw [← hAe]; exact Or.inr h
  have hS : va_S A s.heap s.heap [] := va_S.rf
  have hl := lv_entry [.ref h, .int b] (n := 5) (Nat.le_of_ble_eq_true rfl)
  rw [lg_entry_eq]
  generalize (lg_sl [.ref h, .int b] ++ List.replicate (5 - (lg_sl [.ref h, .int b]).length) Slot.unset).toArray = ls at hl ⊢
  have hl : lv_has ls 5 [(0, .ref h), (1, .int b)] := hl
  have hl36 : (Cond.fieldLink RX3 36 "InertialReference$CompensationTable" "size" "I").before #[Value.ref h, Value.int b] s = true := zw hts 1 rfl
  have hinX3 : ∀ w ∈ u_ws RX3 TX3 3, w ∈ wsX3_removeBin := fun w h => List.mem_cons_of_mem _ (List.mem_append_right _ h)
  refine lv_aload_n hx hb dX3_removeBin_0 rfl (lv_at hl 0 rfl) ?_
  refine va_get (D := D) (ci := 3) (v := .int (nI (cntB kn 39))) (C := RX3) (T := TX3) (N := 3) hx hb hts hinX3 hown hK hP 0 rfl rfl 2 (Nat.le_of_ble_eq_true rfl) hl36 (fun _ h9 => h9) rfl dX3_removeBin_1 ?_
  refine lv_istore_n (lv' := [(2, .int (nI (cntB kn 39))), (0, .ref h), (1, .int b)]) hx hb dX3_removeBin_4 rfl hl (by decide) rfl (fun ls hl => ?_)
  refine lv_iconst (v := 0) hx hb dX3_removeBin_5 (by decide) ?_
  refine lv_istore_n (lv' := [(3, .int 0), (2, .int (nI (cntB kn 39))), (0, .ref h), (1, .int b)]) hx hb dX3_removeBin_6 rfl hl (by decide) rfl (fun ls hl => ?_)
  refine lv_iload_n hx hb dX3_removeBin_7 rfl (lv_at hl 0 rfl) ?_
  refine lv_iconst (v := 3) hx hb dX3_removeBin_8 (by decide) ?_
  refine lv_icmp_ge (tgt := 67) hx hb dX3_removeBin_9 (by decide) (fun c => absurd c (by decide)) (fun _ => ?_)
  refine lv_iload_n hx hb dX3_removeBin_12 rfl (lv_at hl 0 rfl) ?_
  refine lv_iload_n hx hb dX3_removeBin_13 rfl (lv_at hl 3 rfl) ?_
  refine z_calli0 (wc := []) (wr := [(h, .inr (3, [.ref a0, .ref a1, .int (nI (cntB kn 39))])), (a0, zaI k 39 fV), (a1, zaZ k 39 (zk kn))]) (va_runS (As := [.int 0, .int b]) (rest := []) ⟨hx, hb, hml, hown, hts⟩ (c_X3_placeOf_no l D k s.heap.size 0 b (by rw [hb3]; exact Bool.and_false _)) (va_cwS 2 hts gX3_removeBin_X3_placeOf rfl rfl rfl (by decide +kernel) ⟨Nat.le_of_ble_eq_true rfl, Nat.le_of_ble_eq_true rfl⟩) (z_preS (wc := []) hP hD hK [] rfl rfl zb0 zp0) rfl rfl hl.1 rfl (lv_room (Nat.le_of_ble_eq_true rfl)) dX3_removeBin_14 ⟨Nat.zero_le _, Nat.zero_le _⟩) hP hD hS hA [] [0, 1, 2] rfl rfl rfl (by decide) (fun w H locs hF hP hD hS => ?_)
  subst hF
  have hP : va_P D vwCl [(h, .inr (3, [.ref a0, .ref a1, .int (nI (cntB kn 39))])), (a0, zaI k 39 fV), (a1, zaZ k 39 (zk kn))] H := hP
  have hD : va_D A [(h, .inr (3, [.ref a0, .ref a1, .int (nI (cntB kn 39))])), (a0, zaI k 39 fV), (a1, zaZ k 39 (zk kn))] := hD
  refine lv_istore (lv' := [(4, .int (-1)), (3, .int 0), (2, .int (nI (cntB kn 39))), (0, .ref h), (1, .int b)]) hx hb dX3_removeBin_17 hl (by decide) rfl (fun ls hl => ?_)
  refine lv_iload hx hb dX3_removeBin_19 (lv_at hl 0 rfl) ?_
  refine lv_iconst (v := (-1)) hx hb dX3_removeBin_21 (by decide) ?_
  refine lv_icmp_eq (tgt := 61) hx hb dX3_removeBin_22 (by decide) (fun _ => ?_) (fun c => absurd (by decide) c)
  refine lv_iinc (v := 1) (lv' := [(3, .int 1), (4, .int (-1)), (2, .int (nI (cntB kn 39))), (0, .ref h), (1, .int b)]) hx hb dX3_removeBin_61 hl (k := 1) rfl (by decide) (by decide) rfl (fun ls hl => ?_)
  refine lv_goto (tgt := 7) hx hb dX3_removeBin_64 (by decide) ?_
  refine lv_iload_n hx hb dX3_removeBin_7 rfl (lv_at hl 0 rfl) ?_
  refine lv_iconst (v := 3) hx hb dX3_removeBin_8 (by decide) ?_
  refine lv_icmp_ge (tgt := 67) hx hb dX3_removeBin_9 (by decide) (fun c => absurd c (by decide)) (fun _ => ?_)
  refine lv_iload_n hx hb dX3_removeBin_12 rfl (lv_at hl 0 rfl) ?_
  refine lv_iload_n hx hb dX3_removeBin_13 rfl (lv_at hl 4 rfl) ?_
  refine z_calli0 (wc := []) (wr := [(h, .inr (3, [.ref a0, .ref a1, .int (nI (cntB kn 39))])), (a0, zaI k 39 fV), (a1, zaZ k 39 (zk kn))]) (va_runS (As := [.int 1, .int b]) (rest := []) ⟨hx, hb, hml, hown, hts⟩ (c_X3_placeOf_no l D k H.size 1 b (by rw [hb3]; exact Bool.and_false _)) (va_cwS 2 hts gX3_removeBin_X3_placeOf rfl rfl rfl (by decide +kernel) ⟨Nat.le_of_ble_eq_true rfl, Nat.le_of_ble_eq_true rfl⟩) (z_preS (wc := []) hP hD hK [] rfl rfl zb0 zp0) rfl rfl hl.1 rfl (lv_room (Nat.le_of_ble_eq_true rfl)) dX3_removeBin_14 ⟨Nat.zero_le _, Nat.zero_le _⟩) hP hD hS hA [] [0, 1, 2] rfl rfl rfl (by decide) (fun w H locs hF hP hD hS => ?_)
  subst hF
  have hP : va_P D vwCl [(h, .inr (3, [.ref a0, .ref a1, .int (nI (cntB kn 39))])), (a0, zaI k 39 fV), (a1, zaZ k 39 (zk kn))] H := hP
  have hD : va_D A [(h, .inr (3, [.ref a0, .ref a1, .int (nI (cntB kn 39))])), (a0, zaI k 39 fV), (a1, zaZ k 39 (zk kn))] := hD
  refine lv_istore (lv' := [(4, .int (-1)), (3, .int 1), (2, .int (nI (cntB kn 39))), (0, .ref h), (1, .int b)]) hx hb dX3_removeBin_17 hl (by decide) rfl (fun ls hl => ?_)
  refine lv_iload hx hb dX3_removeBin_19 (lv_at hl 0 rfl) ?_
  refine lv_iconst (v := (-1)) hx hb dX3_removeBin_21 (by decide) ?_
  refine lv_icmp_eq (tgt := 61) hx hb dX3_removeBin_22 (by decide) (fun _ => ?_) (fun c => absurd (by decide) c)
  refine lv_iinc (v := 2) (lv' := [(3, .int 2), (4, .int (-1)), (2, .int (nI (cntB kn 39))), (0, .ref h), (1, .int b)]) hx hb dX3_removeBin_61 hl (k := 1) rfl (by decide) (by decide) rfl (fun ls hl => ?_)
  refine lv_goto (tgt := 7) hx hb dX3_removeBin_64 (by decide) ?_
  refine lv_iload_n hx hb dX3_removeBin_7 rfl (lv_at hl 0 rfl) ?_
  refine lv_iconst (v := 3) hx hb dX3_removeBin_8 (by decide) ?_
  refine lv_icmp_ge (tgt := 67) hx hb dX3_removeBin_9 (by decide) (fun c => absurd c (by decide)) (fun _ => ?_)
  refine lv_iload_n hx hb dX3_removeBin_12 rfl (lv_at hl 0 rfl) ?_
  refine lv_iload_n hx hb dX3_removeBin_13 rfl (lv_at hl 4 rfl) ?_
  refine z_calli0 (wc := []) (wr := [(h, .inr (3, [.ref a0, .ref a1, .int (nI (cntB kn 39))])), (a0, zaI k 39 fV), (a1, zaZ k 39 (zk kn))]) (va_runS (As := [.int 2, .int b]) (rest := []) ⟨hx, hb, hml, hown, hts⟩ (c_X3_placeOf_no l D k H.size 2 b (by rw [hb3]; exact Bool.and_false _)) (va_cwS 2 hts gX3_removeBin_X3_placeOf rfl rfl rfl (by decide +kernel) ⟨Nat.le_of_ble_eq_true rfl, Nat.le_of_ble_eq_true rfl⟩) (z_preS (wc := []) hP hD hK [] rfl rfl zb0 zp0) rfl rfl hl.1 rfl (lv_room (Nat.le_of_ble_eq_true rfl)) dX3_removeBin_14 ⟨Nat.zero_le _, Nat.zero_le _⟩) hP hD hS hA [] [0, 1, 2] rfl rfl rfl (by decide) (fun w H locs hF hP hD hS => ?_)
  subst hF
  have hP : va_P D vwCl [(h, .inr (3, [.ref a0, .ref a1, .int (nI (cntB kn 39))])), (a0, zaI k 39 fV), (a1, zaZ k 39 (zk kn))] H := hP
  have hD : va_D A [(h, .inr (3, [.ref a0, .ref a1, .int (nI (cntB kn 39))])), (a0, zaI k 39 fV), (a1, zaZ k 39 (zk kn))] := hD
  refine lv_istore (lv' := [(4, .int (-1)), (3, .int 2), (2, .int (nI (cntB kn 39))), (0, .ref h), (1, .int b)]) hx hb dX3_removeBin_17 hl (by decide) rfl (fun ls hl => ?_)
  refine lv_iload hx hb dX3_removeBin_19 (lv_at hl 0 rfl) ?_
  refine lv_iconst (v := (-1)) hx hb dX3_removeBin_21 (by decide) ?_
  refine lv_icmp_eq (tgt := 61) hx hb dX3_removeBin_22 (by decide) (fun _ => ?_) (fun c => absurd (by decide) c)
  refine lv_iinc (v := 3) (lv' := [(3, .int 3), (4, .int (-1)), (2, .int (nI (cntB kn 39))), (0, .ref h), (1, .int b)]) hx hb dX3_removeBin_61 hl (k := 1) rfl (by decide) (by decide) rfl (fun ls hl => ?_)
  refine lv_goto (tgt := 7) hx hb dX3_removeBin_64 (by decide) ?_
  refine lv_iload_n hx hb dX3_removeBin_7 rfl (lv_at hl 0 rfl) ?_
  refine lv_iconst (v := 3) hx hb dX3_removeBin_8 (by decide) ?_
  refine lv_icmp_ge (tgt := 67) hx hb dX3_removeBin_9 (by decide) (fun _ => ?_) (fun c => absurd (by decide) c)
  refine lv_iload_n hx hb dX3_removeBin_67 rfl (lv_at hl 2 rfl) ?_
  refine lv_aload_n hx hb dX3_removeBin_68 rfl (lv_at hl 3 rfl) ?_
  refine va_get (D := D) (ci := 3) (v := .int (nI (cntB kn 39))) (C := RX3) (T := TX3) (N := 3) hx hb hts hinX3 hown hK hP 0 rfl rfl 2 (Nat.le_of_ble_eq_true rfl) hl36 (fun _ h9 => h9) rfl dX3_removeBin_69 ?_
  refine lv_isub hx hb dX3_removeBin_72 ?_
  have hP9 := hP.sub (ws' := [(h, .inr (3, [.ref a0, .ref a1, .int (nI (cntB kn 39))])), (a0, zaI k 39 fV), (a1, zaZ k 39 (zk kn))]) [0, 1, 2] rfl
  have hD9 := hD.sub (ws' := [(h, .inr (3, [.ref a0, .ref a1, .int (nI (cntB kn 39))])), (a0, zaI k 39 fV), (a1, zaZ k 39 (zk kn))]) [0, 1, 2] (by decide) rfl
  exact W.iret (v := (nI (cntB kn 39)) - (nI (cntB kn 39))) hx hb hr (fun t9 ht9 hW9 => ⟨⟨((nI (cntB kn 39)) - (nI (cntB kn 39))), [(h, .inr (3, [.ref a0, .ref a1, .int (nI (cntB kn 39))])), (a0, zaI k 39 fV), (a1, zaZ k 39 (zk kn))], rfl, ⟨by (exact Int32.sub_self _), rfl⟩, by rw [ht9]; exact hP9, hD9⟩, hS.F ht9⟩) hS.2.2 dX3_removeBin_73
set_option maxHeartbeats 4000000 in
set_option maxRecDepth 100000 in
theorem c_X3_removeBin_ok (l : Launch) (D : va_G) (k : Nat → ClassId) (sz : Nat) (h a0 a1 : Nat) (fV : Nat → Int32) (kn : Nat → Bool) (b : Int32) (hb3 : zin b (-4) 8 = true) (hz : ∀ j, kn j = false → fV j = 0) : Met l yX3_removeBin wsX3_removeBin ({ frames := 2, cells := 0, slots := 0, locals := 41 } : Room) (va_Pc [.ref h, .int b] (zPre D k [(h, .inr (3, [.ref a0, .ref a1, .int (nI (cntB kn 39))])), (a0, zaI k 39 fV), (a1, zaZ k 39 (zk kn))] sz zX0)) (zQi D [(h, .inr (3, [.ref a0, .ref a1, .int (nI (cntB kn 39))])), (a0, zaI k 39 fV), (a1, zaZ k 39 (zk kn))] sz (nI (cntB kn 39) - nI (cntB (clrK kn (cb b) 3) 39)) (fun w : va_W => w = [(h, .inr (3, [.ref a0, .ref a1, .int (nI (cntB (clrK kn (cb b) 3) 39))])), (a0, zaI k 39 (clrV fV (cb b) 3)), (a1, zaZ k 39 (zk (clrK kn (cb b) 3)))])) 0 0 (va_A [(h, .inr (3, [.ref a0, .ref a1, .int (nI (cntB kn 39))])), (a0, zaI k 39 fV), (a1, zaZ k 39 (zk kn))] sz) := by
  refine Met.ofW (cc := cX3_removeBin) (maxL := 5) (ret := (some .int)) (by decide) rfl ?_
  intro p e s m args below meth c s₁ B hml hv
  obtain ⟨rfl, hsz, hP, hK, hD0, hE⟩ := hv
  have hx := B.exec
  have hb := B.bytes
  have hr := B.returns
  have hts := atoms_spec (ws := wsX3_removeBin) B.pre
  have hown : s.vm.findClass RX3 = some m.cls := findClass_of_methodNamed B.named
  have hlocks := B.notSynchronized
  subst hsz
  have hD := hD0.self (sz := s.heap.size)
  delta zQi zB
  generalize hAe : va_A [(h, .inr (3, [.ref a0, .ref a1, .int (nI (cntB kn 39))])), (a0, zaI k 39 fV), (a1, zaZ k 39 (zk kn))] s.heap.size = A at hD hE ⊢
  have hA : ∀ q : Nat, s.heap.size ≤ q → A q := fun q h => by rw [← hAe]; exact Or.inr h
  have hS : va_S A s.heap s.heap [] := va_S.rf
  have hl := lv_entry [.ref h, .int b] (n := 5) (Nat.le_of_ble_eq_true rfl)
  rw [lg_entry_eq]
  generalize (lg_sl [.ref h, .int b] ++ List.replicate (5 - (lg_sl [.ref h, .int b]).length) Slot.unset).toArray = ls at hl ⊢
  have hl : lv_has ls 5 [(0, .ref h), (1, .int b)] := hl
  have hl36 : (Cond.fieldLink RX3 36 "InertialReference$CompensationTable" "size" "I").before #[Value.ref h, Value.int b] s = true := zw hts 1 rfl
  have hinX3 : ∀ w ∈ u_ws RX3 TX3 3, w ∈ wsX3_removeBin := fun w h => List.mem_cons_of_mem _ (List.mem_append_right _ h)
  have hl15 : (Cond.fieldLink RX3 15 "InertialReference$CompensationTable" "known" "[Z").before #[Value.ref h, Value.int b] s = true := zw hts 2 rfl
  have hl11 : (Cond.fieldLink RX3 11 "InertialReference$CompensationTable" "values" "[I").before #[Value.ref h, Value.int b] s = true := zw hts 3 rfl
  have hcb := cb_lt hb3
  refine lv_aload_n hx hb dX3_removeBin_0 rfl (lv_at hl 0 rfl) ?_
  refine va_get (D := D) (ci := 3) (v := .int (nI (cntB kn 39))) (C := RX3) (T := TX3) (N := 3) hx hb hts hinX3 hown hK hP 0 rfl rfl 2 (Nat.le_of_ble_eq_true rfl) hl36 (fun _ h9 => h9) rfl dX3_removeBin_1 ?_
  refine lv_istore_n (lv' := [(2, .int (nI (cntB kn 39))), (0, .ref h), (1, .int b)]) hx hb dX3_removeBin_4 rfl hl (by decide) rfl (fun ls hl => ?_)
  refine lv_iconst (v := 0) hx hb dX3_removeBin_5 (by decide) ?_
  refine lv_istore_n (lv' := [(3, .int 0), (2, .int (nI (cntB kn 39))), (0, .ref h), (1, .int b)]) hx hb dX3_removeBin_6 rfl hl (by decide) rfl (fun ls hl => ?_)
  have hl : lv_has ls 5 [(3, .int (nI 0)), (2, .int (nI (cntB kn 39))), (0, .ref h), (1, .int b)] := hl
  have hP := z_congZ hP 2 rfl (g := zk (clrK kn (cb b) 0)) (fun j _ => zk_cong (clrK_0 kn (cb b) j)) (ws' := [(h, .inr (3, [.ref a0, .ref a1, .int (nI (cntB kn 39))])), (a0, zaI k 39 fV), (a1, zaZ k 39 (zk (clrK kn (cb b) 0)))]) rfl
  have hD := z_congDZ hD 2 rfl (g := zk (clrK kn (cb b) 0)) (ws' := [(h, .inr (3, [.ref a0, .ref a1, .int (nI (cntB kn 39))])), (a0, zaI k 39 fV), (a1, zaZ k 39 (zk (clrK kn (cb b) 0)))]) rfl
  have hP := z_congI hP 1 rfl (g := clrV fV (cb b) 0) (fun j _ => clrV_0 fV (cb b) j) (ws' := [(h, .inr (3, [.ref a0, .ref a1, .int (nI (cntB kn 39))])), (a0, zaI k 39 (clrV fV (cb b) 0)), (a1, zaZ k 39 (zk (clrK kn (cb b) 0)))]) rfl
  have hD := z_congDI hD 1 rfl (g := clrV fV (cb b) 0) (ws' := [(h, .inr (3, [.ref a0, .ref a1, .int (nI (cntB kn 39))])), (a0, zaI k 39 (clrV fV (cb b) 0)), (a1, zaZ k 39 (zk (clrK kn (cb b) 0)))]) rfl
  have hP := z_congO hP 0 rfl (fs2 := [.ref a0, .ref a1, .int (nI (cntB (clrK kn (cb b) 0) 39))]) (by rw [cnt_clr0 kn (cb b)]) (ws' := [(h, .inr (3, [.ref a0, .ref a1, .int (nI (cntB (clrK kn (cb b) 0) 39))])), (a0, zaI k 39 (clrV fV (cb b) 0)), (a1, zaZ k 39 (zk (clrK kn (cb b) 0)))]) rfl
  have hD := z_congDO hD 0 rfl (fs2 := [.ref a0, .ref a1, .int (nI (cntB (clrK kn (cb b) 0) 39))]) (ws' := [(h, .inr (3, [.ref a0, .ref a1, .int (nI (cntB (clrK kn (cb b) 0) 39))])), (a0, zaI k 39 (clrV fV (cb b) 0)), (a1, zaZ k 39 (zk (clrK kn (cb b) 0)))]) rfl
  refine z_loop (St := Nat) (fun st9 => st9 ≤ 3) (fun st9 => [(h, .inr (3, [.ref a0, .ref a1, .int (nI (cntB (clrK kn (cb b) st9) 39))])), (a0, zaI k 39 (clrV fV (cb b) st9)), (a1, zaZ k 39 (zk (clrK kn (cb b) st9)))]) (fun st9 => [(0, .ref h), (1, .int b), (2, .int (nI (cntB kn 39))), (3, .int (nI st9))]) (fun st9 => 3 - st9) 0 (Nat.zero_le 3) hP hD hS (lv_sub hl [2, 3, 1, 0] rfl) ?_
  intro i hj_7 H locs ls hP hD hS hl ih_7
  have hj_7 : i ≤ 3 := hj_7
  have hP : va_P D vwCl [(h, .inr (3, [.ref a0, .ref a1, .int (nI (cntB (clrK kn (cb b) i) 39))])), (a0, zaI k 39 (clrV fV (cb b) i)), (a1, zaZ k 39 (zk (clrK kn (cb b) i)))] H := hP
  have hD : va_D A [(h, .inr (3, [.ref a0, .ref a1, .int (nI (cntB (clrK kn (cb b) i) 39))])), (a0, zaI k 39 (clrV fV (cb b) i)), (a1, zaZ k 39 (zk (clrK kn (cb b) i)))] := hD
  have hl : lv_has ls 5 [(0, .ref h), (1, .int b), (2, .int (nI (cntB kn 39))), (3, .int (nI i))] := hl
  refine lv_iload_n hx hb dX3_removeBin_7 rfl (lv_at hl 3 rfl) ?_
  refine lv_iconst (v := 3) hx hb dX3_removeBin_8 (by decide) ?_
  refine lv_icmp_ge (tgt := 67) hx hb dX3_removeBin_9 (by decide) (fun c_1 => ?_) (fun c_1 => ?_)
  · skip
    have c_1 : 3 ≤ ((i : Nat) : Int) := zle c_1 (by decide) (nI_toInt (by omega))
    refine lv_iload_n hx hb dX3_removeBin_67 rfl (lv_at hl 2 rfl) ?_
    refine lv_aload_n hx hb dX3_removeBin_68 rfl (lv_at hl 0 rfl) ?_
    refine va_get (D := D) (ci := 3) (v := .int (nI (cntB (clrK kn (cb b) i) 39))) (C := RX3) (T := TX3) (N := 3) hx hb hts hinX3 hown hK hP 0 rfl rfl 2 (Nat.le_of_ble_eq_true rfl) hl36 (fun _ h9 => h9) rfl dX3_removeBin_69 ?_
    refine lv_isub hx hb dX3_removeBin_72 ?_
    have hP := z_congO hP 0 rfl (fs2 := [.ref a0, .ref a1, .int (nI (cntB (clrK kn (cb b) 3) 39))]) (by rw [show i = 3 by omega]) (ws' := [(h, .inr (3, [.ref a0, .ref a1, .int (nI (cntB (clrK kn (cb b) 3) 39))])), (a0, zaI k 39 (clrV fV (cb b) i)), (a1, zaZ k 39 (zk (clrK kn (cb b) i)))]) rfl
    have hD := z_congDO hD 0 rfl (fs2 := [.ref a0, .ref a1, .int (nI (cntB (clrK kn (cb b) 3) 39))]) (ws' := [(h, .inr (3, [.ref a0, .ref a1, .int (nI (cntB (clrK kn (cb b) 3) 39))])), (a0, zaI k 39 (clrV fV (cb b) i)), (a1, zaZ k 39 (zk (clrK kn (cb b) i)))]) rfl
    have hP := z_congI hP 1 rfl (g := clrV fV (cb b) 3) (by intro j9 hj9; rw [show i = 3 by omega]) (ws' := [(h, .inr (3, [.ref a0, .ref a1, .int (nI (cntB (clrK kn (cb b) 3) 39))])), (a0, zaI k 39 (clrV fV (cb b) 3)), (a1, zaZ k 39 (zk (clrK kn (cb b) i)))]) rfl
    have hD := z_congDI hD 1 rfl (g := clrV fV (cb b) 3) (ws' := [(h, .inr (3, [.ref a0, .ref a1, .int (nI (cntB (clrK kn (cb b) 3) 39))])), (a0, zaI k 39 (clrV fV (cb b) 3)), (a1, zaZ k 39 (zk (clrK kn (cb b) i)))]) rfl
    have hP := z_congZ hP 2 rfl (g := zk (clrK kn (cb b) 3)) (by intro j9 hj9; rw [show i = 3 by omega]) (ws' := [(h, .inr (3, [.ref a0, .ref a1, .int (nI (cntB (clrK kn (cb b) 3) 39))])), (a0, zaI k 39 (clrV fV (cb b) 3)), (a1, zaZ k 39 (zk (clrK kn (cb b) 3)))]) rfl
    have hD := z_congDZ hD 2 rfl (g := zk (clrK kn (cb b) 3)) (ws' := [(h, .inr (3, [.ref a0, .ref a1, .int (nI (cntB (clrK kn (cb b) 3) 39))])), (a0, zaI k 39 (clrV fV (cb b) 3)), (a1, zaZ k 39 (zk (clrK kn (cb b) 3)))]) rfl
    have hP9 := hP.sub (ws' := [(h, .inr (3, [.ref a0, .ref a1, .int (nI (cntB (clrK kn (cb b) 3) 39))])), (a0, zaI k 39 (clrV fV (cb b) 3)), (a1, zaZ k 39 (zk (clrK kn (cb b) 3)))]) [0, 1, 2] rfl
    have hD9 := hD.sub (ws' := [(h, .inr (3, [.ref a0, .ref a1, .int (nI (cntB (clrK kn (cb b) 3) 39))])), (a0, zaI k 39 (clrV fV (cb b) 3)), (a1, zaZ k 39 (zk (clrK kn (cb b) 3)))]) [0, 1, 2] (by decide) rfl
    exact W.iret (v := (nI (cntB kn 39)) - (nI (cntB (clrK kn (cb b) i) 39))) hx hb hr (fun t9 ht9 hW9 => ⟨⟨((nI (cntB kn 39)) - (nI (cntB (clrK kn (cb b) i) 39))), [(h, .inr (3, [.ref a0, .ref a1, .int (nI (cntB (clrK kn (cb b) 3) 39))])), (a0, zaI k 39 (clrV fV (cb b) 3)), (a1, zaZ k 39 (zk (clrK kn (cb b) 3)))], rfl, ⟨by (rw [show i = 3 by omega]), rfl⟩, by rw [ht9]; exact hP9, hD9⟩, hS.F ht9⟩) hS.2.2 dX3_removeBin_73
  · skip
    have c_1 : ((i : Nat) : Int) < 3 := znle c_1 (by decide) (nI_toInt (by omega))
    refine lv_iload_n hx hb dX3_removeBin_12 rfl (lv_at hl 3 rfl) ?_
    refine lv_iload_n hx hb dX3_removeBin_13 rfl (lv_at hl 1 rfl) ?_
    refine z_calli0 (wc := []) (wr := [(h, .inr (3, [.ref a0, .ref a1, .int (nI (cntB (clrK kn (cb b) i) 39))])), (a0, zaI k 39 (clrV fV (cb b) i)), (a1, zaZ k 39 (zk (clrK kn (cb b) i)))]) (va_runS (As := [.int (nI i), .int b]) (rest := []) ⟨hx, hb, hml, hown, hts⟩ (c_X3_placeOf_ok l D k H.size i b (by omega) hb3) (va_cwS 2 hts gX3_removeBin_X3_placeOf rfl rfl rfl (by decide +kernel) ⟨Nat.le_of_ble_eq_true rfl, Nat.le_of_ble_eq_true rfl⟩) (z_preS (wc := []) hP hD hK [] rfl rfl zb0 zp0) rfl rfl hl.1 rfl (lv_room (Nat.le_of_ble_eq_true rfl)) dX3_removeBin_14 ⟨Nat.zero_le _, Nat.zero_le _⟩) hP hD hS hA [] [0, 1, 2] rfl rfl rfl (by decide) (fun w H locs hF hP hD hS => ?_)
    subst hF
    have hP : va_P D vwCl [(h, .inr (3, [.ref a0, .ref a1, .int (nI (cntB (clrK kn (cb b) i) 39))])), (a0, zaI k 39 (clrV fV (cb b) i)), (a1, zaZ k 39 (zk (clrK kn (cb b) i)))] H := hP
    have hD : va_D A [(h, .inr (3, [.ref a0, .ref a1, .int (nI (cntB (clrK kn (cb b) i) 39))])), (a0, zaI k 39 (clrV fV (cb b) i)), (a1, zaZ k 39 (zk (clrK kn (cb b) i)))] := hD
    refine lv_istore (lv' := [(4, .int (nI (i * 13 + cb b))), (0, .ref h), (1, .int b), (2, .int (nI (cntB kn 39))), (3, .int (nI i))]) hx hb dX3_removeBin_17 hl (by decide) rfl (fun ls hl => ?_)
    refine lv_iload hx hb dX3_removeBin_19 (lv_at hl 0 rfl) ?_
    refine lv_iconst (v := (-1)) hx hb dX3_removeBin_21 (by decide) ?_
    refine lv_icmp_eq (tgt := 61) hx hb dX3_removeBin_22 (by decide) (fun c => absurd c (nI_nm1 (by omega))) (fun c => ?_)
    refine lv_aload_n hx hb dX3_removeBin_25 rfl (lv_at hl 1 rfl) ?_
    refine va_get (D := D) (ci := 3) (v := .ref a1) (C := RX3) (T := TX3) (N := 3) hx hb hts hinX3 hown hK hP 0 rfl rfl 1 (Nat.le_of_ble_eq_true rfl) hl15 (fun _ h9 => h9) rfl dX3_removeBin_26 ?_
    refine lv_iload hx hb dX3_removeBin_29 (lv_at hl 0 rfl) ?_
    refine z_zald hx hb hK hP 2 rfl (i * 13 + cb b) (zxn (by omega)) (by omega) (v := zb ((clrK kn (cb b) i) (i * 13 + cb b))) rfl dX3_removeBin_31 ?_
    refine lv_if_eq (tgt := 61) hx hb dX3_removeBin_32 (by decide) (fun c_2 => ?_) (fun c_2 => ?_)
    · skip
      have c_2 := zb_e c_2
      refine lv_iinc (v := nI (i + 1)) (lv' := [(3, .int (nI (i + 1))), (4, .int (nI (i * 13 + cb b))), (0, .ref h), (1, .int b), (2, .int (nI (cntB kn 39)))]) hx hb dX3_removeBin_61 hl (k := 4) rfl (nI_1 _) (by decide) rfl (fun ls hl => ?_)
      refine lv_goto (tgt := 7) hx hb dX3_removeBin_64 (by decide) ?_
      have hP := z_congZ hP 2 rfl (g := zk (clrK kn (cb b) (i + 1))) (fun j _ => zk_cong (clrK_no hcb c_2 j)) (ws' := [(h, .inr (3, [.ref a0, .ref a1, .int (nI (cntB (clrK kn (cb b) i) 39))])), (a0, zaI k 39 (clrV fV (cb b) i)), (a1, zaZ k 39 (zk (clrK kn (cb b) (i + 1))))]) rfl
      have hD := z_congDZ hD 2 rfl (g := zk (clrK kn (cb b) (i + 1))) (ws' := [(h, .inr (3, [.ref a0, .ref a1, .int (nI (cntB (clrK kn (cb b) i) 39))])), (a0, zaI k 39 (clrV fV (cb b) i)), (a1, zaZ k 39 (zk (clrK kn (cb b) (i + 1))))]) rfl
      have hP := z_congI hP 1 rfl (g := clrV fV (cb b) (i + 1)) (fun j _ => clrV_no hz hcb c_2 j) (ws' := [(h, .inr (3, [.ref a0, .ref a1, .int (nI (cntB (clrK kn (cb b) i) 39))])), (a0, zaI k 39 (clrV fV (cb b) (i + 1))), (a1, zaZ k 39 (zk (clrK kn (cb b) (i + 1))))]) rfl
      have hD := z_congDI hD 1 rfl (g := clrV fV (cb b) (i + 1)) (ws' := [(h, .inr (3, [.ref a0, .ref a1, .int (nI (cntB (clrK kn (cb b) i) 39))])), (a0, zaI k 39 (clrV fV (cb b) (i + 1))), (a1, zaZ k 39 (zk (clrK kn (cb b) (i + 1))))]) rfl
      have hP := z_congO hP 0 rfl (fs2 := [.ref a0, .ref a1, .int (nI (cntB (clrK kn (cb b) (i + 1)) 39))]) (by rw [cnt_clr_no hcb c_2]) (ws' := [(h, .inr (3, [.ref a0, .ref a1, .int (nI (cntB (clrK kn (cb b) (i + 1)) 39))])), (a0, zaI k 39 (clrV fV (cb b) (i + 1))), (a1, zaZ k 39 (zk (clrK kn (cb b) (i + 1))))]) rfl
      have hD := z_congDO hD 0 rfl (fs2 := [.ref a0, .ref a1, .int (nI (cntB (clrK kn (cb b) (i + 1)) 39))]) (ws' := [(h, .inr (3, [.ref a0, .ref a1, .int (nI (cntB (clrK kn (cb b) (i + 1)) 39))])), (a0, zaI k 39 (clrV fV (cb b) (i + 1))), (a1, zaZ k 39 (zk (clrK kn (cb b) (i + 1))))]) rfl
      exact ih_7 (i + 1) (by omega) (by omega) _ _ _ hP hD hS (lv_sub hl [2, 3, 4, 0] rfl)
    · skip
      have c_2 := zb_n c_2
      refine lv_aload_n hx hb dX3_removeBin_35 rfl (lv_at hl 1 rfl) ?_
      refine va_get (D := D) (ci := 3) (v := .ref a0) (C := RX3) (T := TX3) (N := 3) hx hb hts hinX3 hown hK hP 0 rfl rfl 0 (Nat.le_of_ble_eq_true rfl) hl11 (fun _ h9 => h9) rfl dX3_removeBin_36 ?_
      refine lv_iload hx hb dX3_removeBin_39 (lv_at hl 0 rfl) ?_
      refine lv_iconst (v := 0) hx hb dX3_removeBin_41 (by decide) ?_
      refine z_iast hx hb hK hP hD hS 1 rfl (i * 13 + cb b) (zxn (by omega)) (by omega) (ws' := [(h, .inr (3, [.ref a0, .ref a1, .int (nI (cntB (clrK kn (cb b) i) 39))])), (a0, zaI k 39 (upd (clrV fV (cb b) i) (i * 13 + cb b) 0)), (a1, zaZ k 39 (zk (clrK kn (cb b) i)))]) rfl dX3_removeBin_42 (fun H locs hP hD hS => ?_)
      refine lv_aload_n hx hb dX3_removeBin_43 rfl (lv_at hl 1 rfl) ?_
      refine va_get (D := D) (ci := 3) (v := .ref a1) (C := RX3) (T := TX3) (N := 3) hx hb hts hinX3 hown hK hP 0 rfl rfl 1 (Nat.le_of_ble_eq_true rfl) hl15 (fun _ h9 => h9) rfl dX3_removeBin_44 ?_
      refine lv_iload hx hb dX3_removeBin_47 (lv_at hl 0 rfl) ?_
      refine lv_iconst (v := 0) hx hb dX3_removeBin_49 (by decide) ?_
      refine z_zast hx hb hK hP hD hS 2 rfl (i * 13 + cb b) (zxn (by omega)) (by omega) (v := 0) (by decide) (ws' := [(h, .inr (3, [.ref a0, .ref a1, .int (nI (cntB (clrK kn (cb b) i) 39))])), (a0, zaI k 39 (upd (clrV fV (cb b) i) (i * 13 + cb b) 0)), (a1, zaZ k 39 (upd (zk (clrK kn (cb b) i)) (i * 13 + cb b) 0))]) rfl dX3_removeBin_50 (fun H locs hP hD hS => ?_)
      refine lv_aload_n hx hb dX3_removeBin_51 rfl (lv_at hl 1 rfl) ?_
      refine lv_dup hx hb dX3_removeBin_52 rfl ?_
      refine va_get (D := D) (ci := 3) (v := .int (nI (cntB (clrK kn (cb b) i) 39))) (C := RX3) (T := TX3) (N := 3) hx hb hts hinX3 hown hK hP 0 rfl rfl 2 (Nat.le_of_ble_eq_true rfl) hl36 (fun _ h9 => h9) rfl dX3_removeBin_53 ?_
      refine lv_iconst (v := 1) hx hb dX3_removeBin_56 (by decide) ?_
      have hge : 1 ≤ cntB (clrK kn (cb b) i) 39 := (cnt_del (by omega) c_2).2
      refine lv_isub hx hb dX3_removeBin_57 ?_
      refine W.eq (g2 := F0 m 58 ls (.int (nI ((cntB (clrK kn (cb b) i) 39) - 1)) :: [.ref h])) (by rw [znI_sub1 (by omega)]) ?_
      refine va_put (D := D) (ci := 3) (v := .int (nI ((cntB (clrK kn (cb b) i) 39) - 1))) (ty := .int) (C := RX3) (T := TX3) (N := 3) hx hb hts hinX3 tyX3 tyX3_ok nmX3 hown hK hP hD hS 0 rfl rfl 2 (Nat.le_of_ble_eq_true rfl) hl36 (fun _ h9 => h9) rfl  (by decide +kernel) rfl rfl (Nat.le_of_ble_eq_true rfl) dX3_removeBin_58 (fun H locs hP hD hS => ?_)
      have hP : va_P D vwCl [(h, .inr (3, [.ref a0, .ref a1, .int (nI ((cntB (clrK kn (cb b) i) 39) - 1))])), (a0, zaI k 39 (upd (clrV fV (cb b) i) (i * 13 + cb b) 0)), (a1, zaZ k 39 (upd (zk (clrK kn (cb b) i)) (i * 13 + cb b) 0))] H := hP
      have hD : va_D A [(h, .inr (3, [.ref a0, .ref a1, .int (nI ((cntB (clrK kn (cb b) i) 39) - 1))])), (a0, zaI k 39 (upd (clrV fV (cb b) i) (i * 13 + cb b) 0)), (a1, zaZ k 39 (upd (zk (clrK kn (cb b) i)) (i * 13 + cb b) 0))] := hD
      refine lv_iinc (v := nI (i + 1)) (lv' := [(3, .int (nI (i + 1))), (4, .int (nI (i * 13 + cb b))), (0, .ref h), (1, .int b), (2, .int (nI (cntB kn 39)))]) hx hb dX3_removeBin_61 hl (k := 4) rfl (nI_1 _) (by decide) rfl (fun ls hl => ?_)
      refine lv_goto (tgt := 7) hx hb dX3_removeBin_64 (by decide) ?_
      have hP := z_congZ hP 2 rfl (g := zk (clrK kn (cb b) (i + 1))) (fun j _ => (zk_upd _ _ j false).trans (zk_cong (clrK_up hcb j))) (ws' := [(h, .inr (3, [.ref a0, .ref a1, .int (nI ((cntB (clrK kn (cb b) i) 39) - 1))])), (a0, zaI k 39 (upd (clrV fV (cb b) i) (i * 13 + cb b) 0)), (a1, zaZ k 39 (zk (clrK kn (cb b) (i + 1))))]) rfl
      have hD := z_congDZ hD 2 rfl (g := zk (clrK kn (cb b) (i + 1))) (ws' := [(h, .inr (3, [.ref a0, .ref a1, .int (nI ((cntB (clrK kn (cb b) i) 39) - 1))])), (a0, zaI k 39 (upd (clrV fV (cb b) i) (i * 13 + cb b) 0)), (a1, zaZ k 39 (zk (clrK kn (cb b) (i + 1))))]) rfl
      have hP := z_congI hP 1 rfl (g := clrV fV (cb b) (i + 1)) (fun j _ => clrV_up hcb j) (ws' := [(h, .inr (3, [.ref a0, .ref a1, .int (nI ((cntB (clrK kn (cb b) i) 39) - 1))])), (a0, zaI k 39 (clrV fV (cb b) (i + 1))), (a1, zaZ k 39 (zk (clrK kn (cb b) (i + 1))))]) rfl
      have hD := z_congDI hD 1 rfl (g := clrV fV (cb b) (i + 1)) (ws' := [(h, .inr (3, [.ref a0, .ref a1, .int (nI ((cntB (clrK kn (cb b) i) 39) - 1))])), (a0, zaI k 39 (clrV fV (cb b) (i + 1))), (a1, zaZ k 39 (zk (clrK kn (cb b) (i + 1))))]) rfl
      have hP := z_congO hP 0 rfl (fs2 := [.ref a0, .ref a1, .int (nI (cntB (clrK kn (cb b) (i + 1)) 39))]) (by rw [cnt_clr_up hcb (by omega) c_2]) (ws' := [(h, .inr (3, [.ref a0, .ref a1, .int (nI (cntB (clrK kn (cb b) (i + 1)) 39))])), (a0, zaI k 39 (clrV fV (cb b) (i + 1))), (a1, zaZ k 39 (zk (clrK kn (cb b) (i + 1))))]) rfl
      have hD := z_congDO hD 0 rfl (fs2 := [.ref a0, .ref a1, .int (nI (cntB (clrK kn (cb b) (i + 1)) 39))]) (ws' := [(h, .inr (3, [.ref a0, .ref a1, .int (nI (cntB (clrK kn (cb b) (i + 1)) 39))])), (a0, zaI k 39 (clrV fV (cb b) (i + 1))), (a1, zaZ k 39 (zk (clrK kn (cb b) (i + 1))))]) rfl
      exact ih_7 (i + 1) (by omega) (by omega) _ _ _ hP hD hS (lv_sub hl [2, 3, 4, 0] rfl)
set_option maxHeartbeats 4000000 in
set_option maxRecDepth 100000 in
theorem c_X3_empty (l : Launch) (D : va_G) (k : Nat → ClassId) (sz : Nat) (h a0 a1 : Nat) (fV : Nat → Int32) (kn : Nat → Bool) (hz : ∀ j, kn j = false → fV j = 0) : Met l yX3_empty wsX3_empty ({ frames := 3, cells := 0, slots := 0, locals := 65 } : Room) (va_Pc [.ref h] (zPre D k [(h, .inr (3, [.ref a0, .ref a1, .int (nI (cntB kn 39))])), (a0, zaI k 39 fV), (a1, zaZ k 39 (zk kn))] sz zX0)) (zQv D [(h, .inr (3, [.ref a0, .ref a1, .int (nI (cntB kn 39))])), (a0, zaI k 39 fV), (a1, zaZ k 39 (zk kn))] sz (fun w : va_W => w = [(h, .inr (3, [.ref a0, .ref a1, .int 0])), (a0, zaI k 39 (fun _ => 0)), (a1, zaZ k 39 (zk (fun _ => false)))])) 0 0 (va_A [(h, .inr (3, [.ref a0, .ref a1, .int (nI (cntB kn 39))])), (a0, zaI k 39 fV), (a1, zaZ k 39 (zk kn))] sz) := by
  refine Met.ofW (cc := cX3_empty) (maxL := 2) (ret := none) (by decide) rfl ?_
  intro p e s m args below meth c s₁ B hml hv
  obtain ⟨rfl, hsz, hP, hK, hD0, hE⟩ := hv
  have hx := B.exec
  have hb := B.bytes
  have hr := B.returns
  have hts := atoms_spec (ws := wsX3_empty) B.pre
  have hown : s.vm.findClass RX3 = some m.cls := findClass_of_methodNamed B.named
  have hlocks := B.notSynchronized
  subst hsz
  have hD := hD0.self (sz := s.heap.size)
  delta zQv zB
  generalize hAe : va_A [(h, .inr (3, [.ref a0, .ref a1, .int (nI (cntB kn 39))])), (a0, zaI k 39 fV), (a1, zaZ k 39 (zk kn))] s.heap.size = A at hD hE ⊢
  have hA : ∀ q : Nat, s.heap.size ≤ q → A q := fun q h => by rw [← hAe]; exact Or.inr h
  have hS : va_S A s.heap s.heap [] := va_S.rf
  have hl := lv_entry [.ref h] (n := 2) (Nat.le_of_ble_eq_true rfl)
  rw [lg_entry_eq]
  generalize (lg_sl [.ref h] ++ List.replicate (2 - (lg_sl [.ref h]).length) Slot.unset).toArray = ls at hl ⊢
  have hl : lv_has ls 2 [(0, .ref h)] := hl
  refine lv_iconst (v := 0) hx hb dX3_empty_0 (by decide) ?_
  refine lv_istore_n (lv' := [(1, .int 0), (0, .ref h)]) hx hb dX3_empty_1 rfl hl (by decide) rfl (fun ls hl => ?_)
  have hl : lv_has ls 2 [(1, .int (nI 0)), (0, .ref h)] := hl
  have hP := z_congZ hP 2 rfl (g := zk (clrA kn 0)) (fun j _ => zk_cong (clrA_0 kn j)) (ws' := [(h, .inr (3, [.ref a0, .ref a1, .int (nI (cntB kn 39))])), (a0, zaI k 39 fV), (a1, zaZ k 39 (zk (clrA kn 0)))]) rfl
  have hD := z_congDZ hD 2 rfl (g := zk (clrA kn 0)) (ws' := [(h, .inr (3, [.ref a0, .ref a1, .int (nI (cntB kn 39))])), (a0, zaI k 39 fV), (a1, zaZ k 39 (zk (clrA kn 0)))]) rfl
  have hP := z_congI hP 1 rfl (g := clrAV fV 0) (fun j _ => clrAV_0 fV j) (ws' := [(h, .inr (3, [.ref a0, .ref a1, .int (nI (cntB kn 39))])), (a0, zaI k 39 (clrAV fV 0)), (a1, zaZ k 39 (zk (clrA kn 0)))]) rfl
  have hD := z_congDI hD 1 rfl (g := clrAV fV 0) (ws' := [(h, .inr (3, [.ref a0, .ref a1, .int (nI (cntB kn 39))])), (a0, zaI k 39 (clrAV fV 0)), (a1, zaZ k 39 (zk (clrA kn 0)))]) rfl
  have hP := z_congO hP 0 rfl (fs2 := [.ref a0, .ref a1, .int (nI (cntB (clrA kn 0) 39))]) (by rw [cnt_clrA0 kn]) (ws' := [(h, .inr (3, [.ref a0, .ref a1, .int (nI (cntB (clrA kn 0) 39))])), (a0, zaI k 39 (clrAV fV 0)), (a1, zaZ k 39 (zk (clrA kn 0)))]) rfl
  have hD := z_congDO hD 0 rfl (fs2 := [.ref a0, .ref a1, .int (nI (cntB (clrA kn 0) 39))]) (ws' := [(h, .inr (3, [.ref a0, .ref a1, .int (nI (cntB (clrA kn 0) 39))])), (a0, zaI k 39 (clrAV fV 0)), (a1, zaZ k 39 (zk (clrA kn 0)))]) rfl
  refine z_loop (St := Nat) (fun st9 => st9 ≤ 13) (fun st9 => [(h, .inr (3, [.ref a0, .ref a1, .int (nI (cntB (clrA kn st9) 39))])), (a0, zaI k 39 (clrAV fV st9)), (a1, zaZ k 39 (zk (clrA kn st9)))]) (fun st9 => [(0, .ref h), (1, .int (nI st9))]) (fun st9 => 13 - st9) 0 (Nat.zero_le 13) hP hD hS (lv_sub hl [1, 0] rfl) ?_
  intro j hj_2 H locs ls hP hD hS hl ih_2
  have hj_2 : j ≤ 13 := hj_2
  have hP : va_P D vwCl [(h, .inr (3, [.ref a0, .ref a1, .int (nI (cntB (clrA kn j) 39))])), (a0, zaI k 39 (clrAV fV j)), (a1, zaZ k 39 (zk (clrA kn j)))] H := hP
  have hD : va_D A [(h, .inr (3, [.ref a0, .ref a1, .int (nI (cntB (clrA kn j) 39))])), (a0, zaI k 39 (clrAV fV j)), (a1, zaZ k 39 (zk (clrA kn j)))] := hD
  have hl : lv_has ls 2 [(0, .ref h), (1, .int (nI j))] := hl
  refine lv_iload_n hx hb dX3_empty_2 rfl (lv_at hl 1 rfl) ?_
  refine lv_bipush (v := 13) hx hb dX3_empty_3 (by decide) ?_
  refine lv_icmp_ge (tgt := 23) hx hb dX3_empty_5 (by decide) (fun c_1 => ?_) (fun c_1 => ?_)
  · skip
    have c_1 : 13 ≤ ((j : Nat) : Int) := zle c_1 (by decide) (nI_toInt (by omega))
    have hP := z_congO hP 0 rfl (fs2 := [.ref a0, .ref a1, .int 0]) (by rw [show j = 13 by omega, cnt_clrA13 kn]) (ws' := [(h, .inr (3, [.ref a0, .ref a1, .int 0])), (a0, zaI k 39 (clrAV fV j)), (a1, zaZ k 39 (zk (clrA kn j)))]) rfl
    have hD := z_congDO hD 0 rfl (fs2 := [.ref a0, .ref a1, .int 0]) (ws' := [(h, .inr (3, [.ref a0, .ref a1, .int 0])), (a0, zaI k 39 (clrAV fV j)), (a1, zaZ k 39 (zk (clrA kn j)))]) rfl
    have hP := z_congI hP 1 rfl (g := fun _ => 0) (by intro i hi; rw [show j = 13 by omega]; exact clrAV_13 fV i) (ws' := [(h, .inr (3, [.ref a0, .ref a1, .int 0])), (a0, zaI k 39 (fun _ => 0)), (a1, zaZ k 39 (zk (clrA kn j)))]) rfl
    have hD := z_congDI hD 1 rfl (g := fun _ => 0) (ws' := [(h, .inr (3, [.ref a0, .ref a1, .int 0])), (a0, zaI k 39 (fun _ => 0)), (a1, zaZ k 39 (zk (clrA kn j)))]) rfl
    have hP := z_congZ hP 2 rfl (g := zk (fun _ => false)) (by intro i hi; rw [show j = 13 by omega]; exact clrA_13 kn i) (ws' := [(h, .inr (3, [.ref a0, .ref a1, .int 0])), (a0, zaI k 39 (fun _ => 0)), (a1, zaZ k 39 (zk (fun _ => false)))]) rfl
    have hD := z_congDZ hD 2 rfl (g := zk (fun _ => false)) (ws' := [(h, .inr (3, [.ref a0, .ref a1, .int 0])), (a0, zaI k 39 (fun _ => 0)), (a1, zaZ k 39 (zk (fun _ => false)))]) rfl
    have hP9 := hP.sub (ws' := [(h, .inr (3, [.ref a0, .ref a1, .int 0])), (a0, zaI k 39 (fun _ => 0)), (a1, zaZ k 39 (zk (fun _ => false)))]) [0, 1, 2] rfl
    have hD9 := hD.sub (ws' := [(h, .inr (3, [.ref a0, .ref a1, .int 0])), (a0, zaI k 39 (fun _ => 0)), (a1, zaZ k 39 (zk (fun _ => false)))]) [0, 1, 2] (by decide) rfl
    exact W.vret hx hb hr (fun t9 ht9 hW9 => ⟨⟨[(h, .inr (3, [.ref a0, .ref a1, .int 0])), (a0, zaI k 39 (fun _ => 0)), (a1, zaZ k 39 (zk (fun _ => false)))], rfl, rfl, by rw [ht9]; exact hP9, hD9⟩, hS.F ht9⟩) hS.2.2 dX3_empty_23
  · skip
    have c_1 : ((j : Nat) : Int) < 13 := znle c_1 (by decide) (nI_toInt (by omega))
    refine lv_aload_n hx hb dX3_empty_8 rfl (lv_at hl 0 rfl) ?_
    refine lv_bipush (v := (-4)) hx hb dX3_empty_9 (by decide) ?_
    refine lv_iload_n hx hb dX3_empty_11 rfl (lv_at hl 1 rfl) ?_
    refine lv_iadd hx hb dX3_empty_12 ?_
    refine z_calli0 (wc := [(h, .inr (3, [.ref a0, .ref a1, .int (nI (cntB (clrA kn j) 39))])), (a0, zaI k 39 (clrAV fV j)), (a1, zaZ k 39 (zk (clrA kn j)))]) (wr := []) (va_runV (As := [.int ((-4) + (nI j))]) (rest := []) ⟨hx, hb, hml, hown, hts⟩ (c_X3_removeBin_ok l D k H.size h a0 a1 (clrAV fV j) (clrA kn j) ((-4) + (nI j)) (bin_c (by omega)).1 (clrA_hz hz j)) (cwV 1 hts gX3_empty_X3_removeBin rfl rfl rfl (by decide +kernel) ⟨Nat.le_of_ble_eq_true rfl, Nat.le_of_ble_eq_true rfl⟩) (z_preV (wc := [(h, .inr (3, [.ref a0, .ref a1, .int (nI (cntB (clrA kn j) 39))])), (a0, zaI k 39 (clrAV fV j)), (a1, zaZ k 39 (zk (clrA kn j)))]) 0 3 hP hD hK [0, 1, 2] rfl rfl rfl rfl zb0 zp0) rfl rfl hl.1 rfl (lv_room (Nat.le_of_ble_eq_true rfl)) dX3_empty_13 ⟨Nat.zero_le _, Nat.zero_le _⟩) hP hD hS hA [0, 1, 2] [] rfl rfl rfl (by decide) (fun w H locs hF hP hD hS => ?_)
    subst hF
    have hP : va_P D vwCl [(h, .inr (3, [.ref a0, .ref a1, .int (nI (cntB (clrK (clrA kn j) (cb ((-4) + (nI j))) 3) 39))])), (a0, zaI k 39 (clrV (clrAV fV j) (cb ((-4) + (nI j))) 3)), (a1, zaZ k 39 (zk (clrK (clrA kn j) (cb ((-4) + (nI j))) 3)))] H := hP
    have hD : va_D A [(h, .inr (3, [.ref a0, .ref a1, .int (nI (cntB (clrK (clrA kn j) (cb ((-4) + (nI j))) 3) 39))])), (a0, zaI k 39 (clrV (clrAV fV j) (cb ((-4) + (nI j))) 3)), (a1, zaZ k 39 (zk (clrK (clrA kn j) (cb ((-4) + (nI j))) 3)))] := hD
    refine lv_pop hx hb dX3_empty_16 rfl ?_
    refine lv_iinc (v := nI (j + 1)) (lv' := [(1, .int (nI (j + 1))), (0, .ref h)]) hx hb dX3_empty_17 hl (k := 1) rfl (nI_1 _) (by decide) rfl (fun ls hl => ?_)
    refine lv_goto (tgt := 2) hx hb dX3_empty_20 (by decide) ?_
    have hbc := (bin_c (c := j) (by omega)).2
    rw [hbc] at hP hD
    have hP := z_congZ hP 2 rfl (g := zk (clrA kn (j + 1))) (fun i hi => zk_cong (clrA_s hi)) (ws' := [(h, .inr (3, [.ref a0, .ref a1, .int (nI (cntB (clrK (clrA kn j) j 3) 39))])), (a0, zaI k 39 (clrV (clrAV fV j) j 3)), (a1, zaZ k 39 (zk (clrA kn (j + 1))))]) rfl
    have hD := z_congDZ hD 2 rfl (g := zk (clrA kn (j + 1))) (ws' := [(h, .inr (3, [.ref a0, .ref a1, .int (nI (cntB (clrK (clrA kn j) j 3) 39))])), (a0, zaI k 39 (clrV (clrAV fV j) j 3)), (a1, zaZ k 39 (zk (clrA kn (j + 1))))]) rfl
    have hP := z_congI hP 1 rfl (g := clrAV fV (j + 1)) (fun i hi => clrAV_s hi) (ws' := [(h, .inr (3, [.ref a0, .ref a1, .int (nI (cntB (clrK (clrA kn j) j 3) 39))])), (a0, zaI k 39 (clrAV fV (j + 1))), (a1, zaZ k 39 (zk (clrA kn (j + 1))))]) rfl
    have hD := z_congDI hD 1 rfl (g := clrAV fV (j + 1)) (ws' := [(h, .inr (3, [.ref a0, .ref a1, .int (nI (cntB (clrK (clrA kn j) j 3) 39))])), (a0, zaI k 39 (clrAV fV (j + 1))), (a1, zaZ k 39 (zk (clrA kn (j + 1))))]) rfl
    have hP := z_congO hP 0 rfl (fs2 := [.ref a0, .ref a1, .int (nI (cntB (clrA kn (j + 1)) 39))]) (by rw [cnt_clrAs kn j]) (ws' := [(h, .inr (3, [.ref a0, .ref a1, .int (nI (cntB (clrA kn (j + 1)) 39))])), (a0, zaI k 39 (clrAV fV (j + 1))), (a1, zaZ k 39 (zk (clrA kn (j + 1))))]) rfl
    have hD := z_congDO hD 0 rfl (fs2 := [.ref a0, .ref a1, .int (nI (cntB (clrA kn (j + 1)) 39))]) (ws' := [(h, .inr (3, [.ref a0, .ref a1, .int (nI (cntB (clrA kn (j + 1)) 39))])), (a0, zaI k 39 (clrAV fV (j + 1))), (a1, zaZ k 39 (zk (clrA kn (j + 1))))]) rfl
    exact ih_2 (j + 1) (by omega) (by omega) _ _ _ hP hD hS (lv_sub hl [1, 0] rfl)
set_option maxHeartbeats 4000000 in
set_option maxRecDepth 100000 in
theorem c_X1_placeOf_yes (l : Launch) (D : va_G) (k : Nat → ClassId) (sz : Nat) (h a0 a1 a2 n : Nat) (fN : Nat → Int32) (fP fK : Nat → Int64) (num : Int32) (i : Nat) (hn : n ≤ 30) (hi : i < n) (hi2 : fN i = num) (hi3 : ∀ j, j < i → ¬ fN j = num) : Met l yX1_placeOf wsX1_placeOf ({ frames := 0, cells := 0, slots := 0, locals := 0 } : Room) (va_Pc [.ref h, .int num] (zPre D k [(h, .inr (1, [.ref a0, .ref a1, .ref a2, .int (nI n)])), (a0, zaI k 30 fN)] sz zX0)) (zQi D [(h, .inr (1, [.ref a0, .ref a1, .ref a2, .int (nI n)])), (a0, zaI k 30 fN)] sz (nI i) (fun w : va_W => w = [(h, .inr (1, [.ref a0, .ref a1, .ref a2, .int (nI n)])), (a0, zaI k 30 fN)])) 0 0 (va_A [(h, .inr (1, [.ref a0, .ref a1, .ref a2, .int (nI n)])), (a0, zaI k 30 fN)] sz) := by
  refine Met.ofW (cc := cX1_placeOf) (maxL := 3) (ret := (some .int)) (by decide) rfl ?_
  intro p e s m args below meth c s₁ B hml hv
  obtain ⟨rfl, hsz, hP, hK, hD0, hE⟩ := hv
  have hx := B.exec
  have hb := B.bytes
  have hr := B.returns
  have hts := atoms_spec (ws := wsX1_placeOf) B.pre
  have hown : s.vm.findClass RX1 = some m.cls := findClass_of_methodNamed B.named
  have hlocks := B.notSynchronized
  subst hsz
  have hD := hD0.self (sz := s.heap.size)
  delta zQi zB
  generalize hAe : va_A [(h, .inr (1, [.ref a0, .ref a1, .ref a2, .int (nI n)])), (a0, zaI k 30 fN)] s.heap.size = A at hD hE ⊢
  have hA : ∀ q : Nat, s.heap.size ≤ q → A q := fun q h => by rw [← hAe]; exact Or.inr h
  have hS : va_S A s.heap s.heap [] := va_S.rf
  have hl := lv_entry [.ref h, .int num] (n := 3) (Nat.le_of_ble_eq_true rfl)
  rw [lg_entry_eq]
  generalize (lg_sl [.ref h, .int num] ++ List.replicate (3 - (lg_sl [.ref h, .int num]).length) Slot.unset).toArray = ls at hl ⊢
  have hl : lv_has ls 3 [(0, .ref h), (1, .int num)] := hl
  have hl22 : (Cond.fieldLink RX1 22 "InertialReference$AttitudeShelf" "count" "I").before #[Value.ref h, Value.int num] s = true := zw hts 1 rfl
  have hinX1 : ∀ w ∈ u_ws RX1 TX1 4, w ∈ wsX1_placeOf := fun w h => List.mem_cons_of_mem _ (List.mem_append_right _ h)
  have hl11 : (Cond.fieldLink RX1 11 "InertialReference$AttitudeShelf" "numbers" "[I").before #[Value.ref h, Value.int num] s = true := zw hts 2 rfl
  refine lv_iconst (v := 0) hx hb dX1_placeOf_0 (by decide) ?_
  refine lv_istore_n (lv' := [(2, .int 0), (0, .ref h), (1, .int num)]) hx hb dX1_placeOf_1 rfl hl (by decide) rfl (fun ls hl => ?_)
  have hl : lv_has ls 3 [(2, .int (nI 0)), (0, .ref h), (1, .int num)] := hl
  refine z_loop (St := Nat) (fun st9 => st9 ≤ i) (fun st9 => [(h, .inr (1, [.ref a0, .ref a1, .ref a2, .int (nI n)])), (a0, zaI k 30 fN)]) (fun st9 => [(0, .ref h), (1, .int num), (2, .int (nI st9))]) (fun st9 => n - st9) 0 (Nat.zero_le _) hP hD hS (lv_sub hl [1, 2, 0] rfl) ?_
  intro j hj_2 H locs ls hP hD hS hl ih_2
  have hj_2 : j ≤ i := hj_2
  have hP : va_P D vwCl [(h, .inr (1, [.ref a0, .ref a1, .ref a2, .int (nI n)])), (a0, zaI k 30 fN)] H := hP
  have hD : va_D A [(h, .inr (1, [.ref a0, .ref a1, .ref a2, .int (nI n)])), (a0, zaI k 30 fN)] := hD
  have hl : lv_has ls 3 [(0, .ref h), (1, .int num), (2, .int (nI j))] := hl
  refine lv_iload_n hx hb dX1_placeOf_2 rfl (lv_at hl 2 rfl) ?_
  refine lv_aload_n hx hb dX1_placeOf_3 rfl (lv_at hl 0 rfl) ?_
  refine va_get (D := D) (ci := 1) (v := .int (nI n)) (C := RX1) (T := TX1) (N := 4) hx hb hts hinX1 hown hK hP 0 rfl rfl 3 (Nat.le_of_ble_eq_true rfl) hl22 (fun _ h9 => h9) rfl dX1_placeOf_4 ?_
  refine lv_icmp_ge (tgt := 28) hx hb dX1_placeOf_7 (by decide) (fun c_1 => ?_) (fun c_1 => ?_)
  · skip
    have c_1 : ((n : Nat) : Int) ≤ ((j : Nat) : Int) := zle c_1 (nI_toInt (by omega)) (nI_toInt (by omega))
    omega
  · skip
    have c_1 : ((j : Nat) : Int) < ((n : Nat) : Int) := znle c_1 (nI_toInt (by omega)) (nI_toInt (by omega))
    refine lv_aload_n hx hb dX1_placeOf_10 rfl (lv_at hl 0 rfl) ?_
    refine va_get (D := D) (ci := 1) (v := .ref a0) (C := RX1) (T := TX1) (N := 4) hx hb hts hinX1 hown hK hP 0 rfl rfl 0 (Nat.le_of_ble_eq_true rfl) hl11 (fun _ h9 => h9) rfl dX1_placeOf_11 ?_
    refine lv_iload_n hx hb dX1_placeOf_14 rfl (lv_at hl 2 rfl) ?_
    refine z_iald hx hb hK hP 1 rfl j (zxn (by omega)) (by omega) (v := fN j) rfl dX1_placeOf_15 ?_
    refine lv_iload_n hx hb dX1_placeOf_16 rfl (lv_at hl 1 rfl) ?_
    refine lv_icmp_ne (tgt := 22) hx hb dX1_placeOf_17 (by decide) (fun c_2 => ?_) (fun c_2 => ?_)
    · skip
      refine lv_iinc (v := nI (j + 1)) (lv' := [(2, .int (nI (j + 1))), (0, .ref h), (1, .int num)]) hx hb dX1_placeOf_22 hl (k := 2) rfl (nI_1 _) (by decide) rfl (fun ls hl => ?_)
      refine lv_goto (tgt := 2) hx hb dX1_placeOf_25 (by decide) ?_
      exact ih_2 (j + 1) (by have : j ≠ i := fun q => c_2 (q ▸ hi2); omega) (by omega) _ _ _ hP hD hS (lv_sub hl [1, 2, 0] rfl)
    · skip
      refine lv_iload_n hx hb dX1_placeOf_20 rfl (lv_at hl 2 rfl) ?_
      have hP9 := hP.sub (ws' := [(h, .inr (1, [.ref a0, .ref a1, .ref a2, .int (nI n)])), (a0, zaI k 30 fN)]) [0, 1] rfl
      have hD9 := hD.sub (ws' := [(h, .inr (1, [.ref a0, .ref a1, .ref a2, .int (nI n)])), (a0, zaI k 30 fN)]) [0, 1] (by decide) rfl
      exact W.iret (v := nI j) hx hb hr (fun t9 ht9 hW9 => ⟨⟨(nI j), [(h, .inr (1, [.ref a0, .ref a1, .ref a2, .int (nI n)])), (a0, zaI k 30 fN)], rfl, ⟨by (rw [show j = i from Nat.le_antisymm hj_2 (Nat.not_lt.mp (fun q => hi3 j q c_2))]), rfl⟩, by rw [ht9]; exact hP9, hD9⟩, hS.F ht9⟩) hS.2.2 dX1_placeOf_21
set_option maxHeartbeats 4000000 in
set_option maxRecDepth 100000 in
theorem c_X1_placeOf_no (l : Launch) (D : va_G) (k : Nat → ClassId) (sz : Nat) (h a0 a1 a2 n : Nat) (fN : Nat → Int32) (fP fK : Nat → Int64) (num : Int32) (hn : n ≤ 30) (hi3 : ∀ j, j < n → ¬ fN j = num) : Met l yX1_placeOf wsX1_placeOf ({ frames := 0, cells := 0, slots := 0, locals := 0 } : Room) (va_Pc [.ref h, .int num] (zPre D k [(h, .inr (1, [.ref a0, .ref a1, .ref a2, .int (nI n)])), (a0, zaI k 30 fN)] sz zX0)) (zQi D [(h, .inr (1, [.ref a0, .ref a1, .ref a2, .int (nI n)])), (a0, zaI k 30 fN)] sz (-1) (fun w : va_W => w = [(h, .inr (1, [.ref a0, .ref a1, .ref a2, .int (nI n)])), (a0, zaI k 30 fN)])) 0 0 (va_A [(h, .inr (1, [.ref a0, .ref a1, .ref a2, .int (nI n)])), (a0, zaI k 30 fN)] sz) := by
  refine Met.ofW (cc := cX1_placeOf) (maxL := 3) (ret := (some .int)) (by decide) rfl ?_
  intro p e s m args below meth c s₁ B hml hv
  obtain ⟨rfl, hsz, hP, hK, hD0, hE⟩ := hv
  have hx := B.exec
  have hb := B.bytes
  have hr := B.returns
  have hts := atoms_spec (ws := wsX1_placeOf) B.pre
  have hown : s.vm.findClass RX1 = some m.cls := findClass_of_methodNamed B.named
  have hlocks := B.notSynchronized
  subst hsz
  have hD := hD0.self (sz := s.heap.size)
  delta zQi zB
  generalize hAe : va_A [(h, .inr (1, [.ref a0, .ref a1, .ref a2, .int (nI n)])), (a0, zaI k 30 fN)] s.heap.size = A at hD hE ⊢
  have hA : ∀ q : Nat, s.heap.size ≤ q → A q := fun q h => by rw [← hAe]; exact Or.inr h
  have hS : va_S A s.heap s.heap [] := va_S.rf
  have hl := lv_entry [.ref h, .int num] (n := 3) (Nat.le_of_ble_eq_true rfl)
  rw [lg_entry_eq]
  generalize (lg_sl [.ref h, .int num] ++ List.replicate (3 - (lg_sl [.ref h, .int num]).length) Slot.unset).toArray = ls at hl ⊢
  have hl : lv_has ls 3 [(0, .ref h), (1, .int num)] := hl
  have hl22 : (Cond.fieldLink RX1 22 "InertialReference$AttitudeShelf" "count" "I").before #[Value.ref h, Value.int num] s = true := zw hts 1 rfl
  have hinX1 : ∀ w ∈ u_ws RX1 TX1 4, w ∈ wsX1_placeOf := fun w h => List.mem_cons_of_mem _ (List.mem_append_right _ h)
  have hl11 : (Cond.fieldLink RX1 11 "InertialReference$AttitudeShelf" "numbers" "[I").before #[Value.ref h, Value.int num] s = true := zw hts 2 rfl
  refine lv_iconst (v := 0) hx hb dX1_placeOf_0 (by decide) ?_
  refine lv_istore_n (lv' := [(2, .int 0), (0, .ref h), (1, .int num)]) hx hb dX1_placeOf_1 rfl hl (by decide) rfl (fun ls hl => ?_)
  have hl : lv_has ls 3 [(2, .int (nI 0)), (0, .ref h), (1, .int num)] := hl
  refine z_loop (St := Nat) (fun st9 => st9 ≤ n) (fun st9 => [(h, .inr (1, [.ref a0, .ref a1, .ref a2, .int (nI n)])), (a0, zaI k 30 fN)]) (fun st9 => [(0, .ref h), (1, .int num), (2, .int (nI st9))]) (fun st9 => n - st9) 0 (Nat.zero_le _) hP hD hS (lv_sub hl [1, 2, 0] rfl) ?_
  intro j hj_2 H locs ls hP hD hS hl ih_2
  have hj_2 : j ≤ n := hj_2
  have hP : va_P D vwCl [(h, .inr (1, [.ref a0, .ref a1, .ref a2, .int (nI n)])), (a0, zaI k 30 fN)] H := hP
  have hD : va_D A [(h, .inr (1, [.ref a0, .ref a1, .ref a2, .int (nI n)])), (a0, zaI k 30 fN)] := hD
  have hl : lv_has ls 3 [(0, .ref h), (1, .int num), (2, .int (nI j))] := hl
  refine lv_iload_n hx hb dX1_placeOf_2 rfl (lv_at hl 2 rfl) ?_
  refine lv_aload_n hx hb dX1_placeOf_3 rfl (lv_at hl 0 rfl) ?_
  refine va_get (D := D) (ci := 1) (v := .int (nI n)) (C := RX1) (T := TX1) (N := 4) hx hb hts hinX1 hown hK hP 0 rfl rfl 3 (Nat.le_of_ble_eq_true rfl) hl22 (fun _ h9 => h9) rfl dX1_placeOf_4 ?_
  refine lv_icmp_ge (tgt := 28) hx hb dX1_placeOf_7 (by decide) (fun c_1 => ?_) (fun c_1 => ?_)
  · skip
    have c_1 : ((n : Nat) : Int) ≤ ((j : Nat) : Int) := zle c_1 (nI_toInt (by omega)) (nI_toInt (by omega))
    refine lv_iconst (v := (-1)) hx hb dX1_placeOf_28 (by decide) ?_
    have hP9 := hP.sub (ws' := [(h, .inr (1, [.ref a0, .ref a1, .ref a2, .int (nI n)])), (a0, zaI k 30 fN)]) [0, 1] rfl
    have hD9 := hD.sub (ws' := [(h, .inr (1, [.ref a0, .ref a1, .ref a2, .int (nI n)])), (a0, zaI k 30 fN)]) [0, 1] (by decide) rfl
    exact W.iret (v := (-1)) hx hb hr (fun t9 ht9 hW9 => ⟨⟨(-1), [(h, .inr (1, [.ref a0, .ref a1, .ref a2, .int (nI n)])), (a0, zaI k 30 fN)], rfl, ⟨rfl, rfl⟩, by rw [ht9]; exact hP9, hD9⟩, hS.F ht9⟩) hS.2.2 dX1_placeOf_29
  · skip
    have c_1 : ((j : Nat) : Int) < ((n : Nat) : Int) := znle c_1 (nI_toInt (by omega)) (nI_toInt (by omega))
    refine lv_aload_n hx hb dX1_placeOf_10 rfl (lv_at hl 0 rfl) ?_
    refine va_get (D := D) (ci := 1) (v := .ref a0) (C := RX1) (T := TX1) (N := 4) hx hb hts hinX1 hown hK hP 0 rfl rfl 0 (Nat.le_of_ble_eq_true rfl) hl11 (fun _ h9 => h9) rfl dX1_placeOf_11 ?_
    refine lv_iload_n hx hb dX1_placeOf_14 rfl (lv_at hl 2 rfl) ?_
    refine z_iald hx hb hK hP 1 rfl j (zxn (by omega)) (by omega) (v := fN j) rfl dX1_placeOf_15 ?_
    refine lv_iload_n hx hb dX1_placeOf_16 rfl (lv_at hl 1 rfl) ?_
    refine lv_icmp_ne (tgt := 22) hx hb dX1_placeOf_17 (by decide) (fun c_2 => ?_) (fun c_2 => ?_)
    · skip
      refine lv_iinc (v := nI (j + 1)) (lv' := [(2, .int (nI (j + 1))), (0, .ref h), (1, .int num)]) hx hb dX1_placeOf_22 hl (k := 2) rfl (nI_1 _) (by decide) rfl (fun ls hl => ?_)
      refine lv_goto (tgt := 2) hx hb dX1_placeOf_25 (by decide) ?_
      exact ih_2 (j + 1) (by omega) (by omega) _ _ _ hP hD hS (lv_sub hl [1, 2, 0] rfl)
    · skip
      exact absurd c_2 (hi3 j (by omega))
set_option maxHeartbeats 4000000 in
set_option maxRecDepth 100000 in
theorem c_X1_numberAt (l : Launch) (D : va_G) (k : Nat → ClassId) (sz : Nat) (h a0 a1 a2 n : Nat) (fN : Nat → Int32) (fP fK : Nat → Int64) (q : Int32) (hn : n ≤ 30) : Met l yX1_numberAt wsX1_numberAt ({ frames := 0, cells := 0, slots := 0, locals := 0 } : Room) (va_Pc [.ref h, .int q] (zPre D k [(h, .inr (1, [.ref a0, .ref a1, .ref a2, .int (nI n)])), (a0, zaI k 30 fN)] sz zX0)) (zQi D [(h, .inr (1, [.ref a0, .ref a1, .ref a2, .int (nI n)])), (a0, zaI k 30 fN)] sz (if zin q 0 ((n : Int) - 1) then fN q.toNatClampNeg else -1) (fun w : va_W => w = [(h, .inr (1, [.ref a0, .ref a1, .ref a2, .int (nI n)])), (a0, zaI k 30 fN)])) 0 0 (va_A [(h, .inr (1, [.ref a0, .ref a1, .ref a2, .int (nI n)])), (a0, zaI k 30 fN)] sz) := by
  refine Met.ofW (cc := cX1_numberAt) (maxL := 2) (ret := (some .int)) (by decide) rfl ?_
  intro p e s m args below meth c s₁ B hml hv
  obtain ⟨rfl, hsz, hP, hK, hD0, hE⟩ := hv
  have hx := B.exec
  have hb := B.bytes
  have hr := B.returns
  have hts := atoms_spec (ws := wsX1_numberAt) B.pre
  have hown : s.vm.findClass RX1 = some m.cls := findClass_of_methodNamed B.named
  have hlocks := B.notSynchronized
  subst hsz
  have hD := hD0.self (sz := s.heap.size)
  delta zQi zB
  generalize hAe : va_A [(h, .inr (1, [.ref a0, .ref a1, .ref a2, .int (nI n)])), (a0, zaI k 30 fN)] s.heap.size = A at hD hE ⊢
  have hA : ∀ q : Nat, s.heap.size ≤ q → A q := fun q h => by rw [← hAe]; exact Or.inr h
  have hS : va_S A s.heap s.heap [] := va_S.rf
  have hl := lv_entry [.ref h, .int q] (n := 2) (Nat.le_of_ble_eq_true rfl)
  rw [lg_entry_eq]
  generalize (lg_sl [.ref h, .int q] ++ List.replicate (2 - (lg_sl [.ref h, .int q]).length) Slot.unset).toArray = ls at hl ⊢
  have hl : lv_has ls 2 [(0, .ref h), (1, .int q)] := hl
  have hl22 : (Cond.fieldLink RX1 22 "InertialReference$AttitudeShelf" "count" "I").before #[Value.ref h, Value.int q] s = true := zw hts 1 rfl
  have hinX1 : ∀ w ∈ u_ws RX1 TX1 4, w ∈ wsX1_numberAt := fun w h => List.mem_cons_of_mem _ (List.mem_append_right _ h)
  have hl11 : (Cond.fieldLink RX1 11 "InertialReference$AttitudeShelf" "numbers" "[I").before #[Value.ref h, Value.int q] s = true := zw hts 2 rfl
  refine lv_iload_n hx hb dX1_numberAt_0 rfl (lv_at hl 1 rfl) ?_
  refine lv_if_lt (tgt := 21) hx hb dX1_numberAt_1 (by decide) (fun c_1 => ?_) (fun c_1 => ?_)
  · skip
    have c_1 : q.toInt < 0 := zlt c_1 rfl (by decide)
    refine lv_iconst (v := (-1)) hx hb dX1_numberAt_21 (by decide) ?_
    have hP9 := hP.sub (ws' := [(h, .inr (1, [.ref a0, .ref a1, .ref a2, .int (nI n)])), (a0, zaI k 30 fN)]) [0, 1] rfl
    have hD9 := hD.sub (ws' := [(h, .inr (1, [.ref a0, .ref a1, .ref a2, .int (nI n)])), (a0, zaI k 30 fN)]) [0, 1] (by decide) rfl
    exact W.iret (v := (-1)) hx hb hr (fun t9 ht9 hW9 => ⟨⟨(-1), [(h, .inr (1, [.ref a0, .ref a1, .ref a2, .int (nI n)])), (a0, zaI k 30 fN)], rfl, ⟨by (rw [if_neg (by rw [zin_f (by omega)]; decide)]), rfl⟩, by rw [ht9]; exact hP9, hD9⟩, hS.F ht9⟩) hS.2.2 dX1_numberAt_22
  · skip
    have c_1 : 0 ≤ q.toInt := znlt c_1 rfl (by decide)
    refine lv_iload_n hx hb dX1_numberAt_4 rfl (lv_at hl 1 rfl) ?_
    refine lv_aload_n hx hb dX1_numberAt_5 rfl (lv_at hl 0 rfl) ?_
    refine va_get (D := D) (ci := 1) (v := .int (nI n)) (C := RX1) (T := TX1) (N := 4) hx hb hts hinX1 hown hK hP 0 rfl rfl 3 (Nat.le_of_ble_eq_true rfl) hl22 (fun _ h9 => h9) rfl dX1_numberAt_6 ?_
    refine lv_icmp_ge (tgt := 21) hx hb dX1_numberAt_9 (by decide) (fun c_2 => ?_) (fun c_2 => ?_)
    · skip
      have c_2 : ((n : Nat) : Int) ≤ q.toInt := zle c_2 (nI_toInt (by omega)) rfl
      refine lv_iconst (v := (-1)) hx hb dX1_numberAt_21 (by decide) ?_
      have hP9 := hP.sub (ws' := [(h, .inr (1, [.ref a0, .ref a1, .ref a2, .int (nI n)])), (a0, zaI k 30 fN)]) [0, 1] rfl
      have hD9 := hD.sub (ws' := [(h, .inr (1, [.ref a0, .ref a1, .ref a2, .int (nI n)])), (a0, zaI k 30 fN)]) [0, 1] (by decide) rfl
      exact W.iret (v := (-1)) hx hb hr (fun t9 ht9 hW9 => ⟨⟨(-1), [(h, .inr (1, [.ref a0, .ref a1, .ref a2, .int (nI n)])), (a0, zaI k 30 fN)], rfl, ⟨by (rw [if_neg (by rw [zin_f (by omega)]; decide)]), rfl⟩, by rw [ht9]; exact hP9, hD9⟩, hS.F ht9⟩) hS.2.2 dX1_numberAt_22
    · skip
      have c_2 : q.toInt < ((n : Nat) : Int) := znle c_2 (nI_toInt (by omega)) rfl
      refine lv_aload_n hx hb dX1_numberAt_12 rfl (lv_at hl 0 rfl) ?_
      refine va_get (D := D) (ci := 1) (v := .ref a0) (C := RX1) (T := TX1) (N := 4) hx hb hts hinX1 hown hK hP 0 rfl rfl 0 (Nat.le_of_ble_eq_true rfl) hl11 (fun _ h9 => h9) rfl dX1_numberAt_13 ?_
      refine lv_iload_n hx hb dX1_numberAt_16 rfl (lv_at hl 1 rfl) ?_
      refine z_iald hx hb hK hP 1 rfl q.toNatClampNeg (zxi (by omega)) (zxl (by omega) (by omega)) (v := fN q.toNatClampNeg) rfl dX1_numberAt_17 ?_
      refine lv_goto (tgt := 22) hx hb dX1_numberAt_18 (by decide) ?_
      have hP9 := hP.sub (ws' := [(h, .inr (1, [.ref a0, .ref a1, .ref a2, .int (nI n)])), (a0, zaI k 30 fN)]) [0, 1] rfl
      have hD9 := hD.sub (ws' := [(h, .inr (1, [.ref a0, .ref a1, .ref a2, .int (nI n)])), (a0, zaI k 30 fN)]) [0, 1] (by decide) rfl
      exact W.iret (v := fN q.toNatClampNeg) hx hb hr (fun t9 ht9 hW9 => ⟨⟨(fN q.toNatClampNeg), [(h, .inr (1, [.ref a0, .ref a1, .ref a2, .int (nI n)])), (a0, zaI k 30 fN)], rfl, ⟨by (rw [if_pos (zin_t (by omega))]), rfl⟩, by rw [ht9]; exact hP9, hD9⟩, hS.F ht9⟩) hS.2.2 dX1_numberAt_22
set_option maxHeartbeats 4000000 in
set_option maxRecDepth 100000 in
theorem c_X1_put_old (l : Launch) (D : va_G) (k : Nat → ClassId) (sz : Nat) (h a0 a1 a2 n g gp gs gi gr gm : Nat) (fN : Nat → Int32) (fP fK fE : Nat → Int64) (num : Int32) (i : Nat) (hn : n ≤ 30) (hi : i < n) (hi2 : fN i = num) (hi3 : ∀ j, j < i → ¬ fN j = num) : Met l yX1_put wsX1_put ({ frames := 1, cells := 0, slots := 0, locals := 22 } : Room) (va_Pc [.ref h, .int num, .ref g] (zPre D k [(h, .inr (1, [.ref a0, .ref a1, .ref a2, .int (nI n)])), (a0, zaI k 30 fN), (a1, zaJ k 120 fP), (a2, zaJ k 4 fK), (g, .inr (0, [.ref gp, .ref gs, .ref gi, .ref gr, .ref gm])), (gp, zaJ k 4 fE)] sz zN)) (zQi D [(h, .inr (1, [.ref a0, .ref a1, .ref a2, .int (nI n)])), (a0, zaI k 30 fN), (a1, zaJ k 120 fP), (a2, zaJ k 4 fK), (g, .inr (0, [.ref gp, .ref gs, .ref gi, .ref gr, .ref gm])), (gp, zaJ k 4 fE)] sz (nI n) (fun w : va_W => w = [(h, .inr (1, [.ref a0, .ref a1, .ref a2, .int (nI n)])), (a0, zaI k 30 fN), (a1, zaJ k 120 (lay4 fP fE i)), (a2, zaJ k 4 fK), (g, .inr (0, [.ref gp, .ref gs, .ref gi, .ref gr, .ref gm])), (gp, zaJ k 4 fE)])) 0 0 (va_A [(h, .inr (1, [.ref a0, .ref a1, .ref a2, .int (nI n)])), (a0, zaI k 30 fN), (a1, zaJ k 120 fP), (a2, zaJ k 4 fK), (g, .inr (0, [.ref gp, .ref gs, .ref gi, .ref gr, .ref gm])), (gp, zaJ k 4 fE)] sz) := by
  refine Met.ofW (cc := cX1_put) (maxL := 4) (ret := (some .int)) (by decide) rfl ?_
  intro p e s m args below meth c s₁ B hml hv
  obtain ⟨rfl, hsz, hP, hK, hD0, hE⟩ := hv
  have hx := B.exec
  have hb := B.bytes
  have hr := B.returns
  have hts := atoms_spec (ws := wsX1_put) B.pre
  have hown : s.vm.findClass RX1 = some m.cls := findClass_of_methodNamed B.named
  have hlocks := B.notSynchronized
  subst hsz
  have hD := hD0.self (sz := s.heap.size)
  delta zQi zB
  generalize hAe : va_A [(h, .inr (1, [.ref a0, .ref a1, .ref a2, .int (nI n)])), (a0, zaI k 30 fN), (a1, zaJ k 120 fP), (a2, zaJ k 4 fK), (g, .inr (0, [.ref gp, .ref gs, .ref gi, .ref gr, .ref gm])), (gp, zaJ k 4 fE)] s.heap.size = A at hD hE ⊢
  have hA : ∀ q : Nat, s.heap.size ≤ q → A q := fun q h => by rw [← hAe]; exact Or.inr h
  have hS : va_S A s.heap s.heap [] := va_S.rf
  have hl := lv_entry [.ref h, .int num, .ref g] (n := 4) (Nat.le_of_ble_eq_true rfl)
  rw [lg_entry_eq]
  generalize (lg_sl [.ref h, .int num, .ref g] ++ List.replicate (4 - (lg_sl [.ref h, .int num, .ref g]).length) Slot.unset).toArray = ls at hl ⊢
  have hl : lv_has ls 4 [(0, .ref h), (1, .int num), (2, .ref g)] := hl
  have hl30 : (Cond.fieldLinkNest RX1 30 "InertialReference$Attitude" "parts" "[J" "InertialReference").before #[Value.ref h, Value.int num, Value.ref g] s = true := va_Nw.use rfl (zn_RX1_30 hE)
  have hinX0 : ∀ w ∈ u_ws RX0 TX0 5, w ∈ wsX1_put := fun w h => List.mem_cons_of_mem _ (List.mem_append_right _ h)
  have hl15 : (Cond.fieldLink RX1 15 "InertialReference$AttitudeShelf" "stored" "[J").before #[Value.ref h, Value.int num, Value.ref g] s = true := zw hts 3 rfl
  have hinX1 : ∀ w ∈ u_ws RX1 TX1 4, w ∈ wsX1_put := fun w h => List.mem_cons_of_mem _ (List.mem_append_left _ (List.mem_append_right _ h))
  have hl22 : (Cond.fieldLink RX1 22 "InertialReference$AttitudeShelf" "count" "I").before #[Value.ref h, Value.int num, Value.ref g] s = true := zw hts 1 rfl
  refine lv_aload_n hx hb dX1_put_0 rfl (lv_at hl 0 rfl) ?_
  refine lv_iload_n hx hb dX1_put_1 rfl (lv_at hl 1 rfl) ?_
  refine z_calli0 (wc := [(h, .inr (1, [.ref a0, .ref a1, .ref a2, .int (nI n)])), (a0, zaI k 30 fN)]) (wr := [(a1, zaJ k 120 fP), (a2, zaJ k 4 fK), (g, .inr (0, [.ref gp, .ref gs, .ref gi, .ref gr, .ref gm])), (gp, zaJ k 4 fE)]) (va_runV (As := [.int num]) (rest := []) ⟨hx, hb, hml, hown, hts⟩ (c_X1_placeOf_yes l D k s.heap.size h a0 a1 a2 n fN fP fK num i hn hi hi2 hi3) (cwV 1 hts gX1_put_X1_placeOf rfl rfl rfl (by decide +kernel) ⟨Nat.le_of_ble_eq_true rfl, Nat.le_of_ble_eq_true rfl⟩) (z_preV (wc := [(h, .inr (1, [.ref a0, .ref a1, .ref a2, .int (nI n)])), (a0, zaI k 30 fN)]) 0 1 hP hD hK [0, 1] rfl rfl rfl rfl zb0 zp0) rfl rfl hl.1 rfl (lv_room (Nat.le_of_ble_eq_true rfl)) dX1_put_2 ⟨Nat.zero_le _, Nat.zero_le _⟩) hP hD hS hA [0, 1] [2, 3, 4, 5] rfl rfl rfl (by decide) (fun w H locs hF hP hD hS => ?_)
  subst hF
  have hP : va_P D vwCl [(a1, zaJ k 120 fP), (a2, zaJ k 4 fK), (g, .inr (0, [.ref gp, .ref gs, .ref gi, .ref gr, .ref gm])), (gp, zaJ k 4 fE), (h, .inr (1, [.ref a0, .ref a1, .ref a2, .int (nI n)])), (a0, zaI k 30 fN)] H := hP
  have hD : va_D A [(a1, zaJ k 120 fP), (a2, zaJ k 4 fK), (g, .inr (0, [.ref gp, .ref gs, .ref gi, .ref gr, .ref gm])), (gp, zaJ k 4 fE), (h, .inr (1, [.ref a0, .ref a1, .ref a2, .int (nI n)])), (a0, zaI k 30 fN)] := hD
  refine lv_istore_n (lv' := [(3, .int (nI i)), (0, .ref h), (1, .int num), (2, .ref g)]) hx hb dX1_put_5 rfl hl (by decide) rfl (fun ls hl => ?_)
  refine lv_iload_n hx hb dX1_put_6 rfl (lv_at hl 0 rfl) ?_
  refine lv_iconst (v := (-1)) hx hb dX1_put_7 (by decide) ?_
  refine lv_icmp_ne (tgt := 45) hx hb dX1_put_8 (by decide) (fun c => ?_) (fun c => absurd c (nI_nm1 (by omega)))
  refine lv_aload_n hx hb dX1_put_45 rfl (lv_at hl 3 rfl) ?_
  refine va_getN (D := D) (ci := 0) (v := .ref gp) (C := RX0) (T := TX0) (N := 5) hx hb hts hinX0 hown hK hP 2 rfl rfl 0 (Nat.le_of_ble_eq_true rfl) hl30 (fun _ h9 => h9) rfl dX1_put_46 ?_
  refine lv_iconst (v := 0) hx hb dX1_put_49 (by decide) ?_
  refine lv_aload_n hx hb dX1_put_50 rfl (lv_at hl 1 rfl) ?_
  refine va_get (D := D) (ci := 1) (v := .ref a1) (C := RX1) (T := TX1) (N := 4) hx hb hts hinX1 hown hK hP 4 rfl rfl 1 (Nat.le_of_ble_eq_true rfl) hl15 (fun _ h9 => h9) rfl dX1_put_51 ?_
  refine lv_iload_n hx hb dX1_put_54 rfl (lv_at hl 0 rfl) ?_
  refine lv_iconst (v := 4) hx hb dX1_put_55 (by decide) ?_
  refine lv_imul hx hb dX1_put_56 ?_
  refine W.eq (g2 := F0 m 57 ls (.int (nI (i * 4)) :: [.ref a1, .int 0, .ref gp])) (by rw [show (nI i * 4 : Int32) = nI (i * 4) from pk_mul _ _]) ?_
  refine lv_iconst (v := 4) hx hb dX1_put_57 (by decide) ?_
  refine z_copyl hx hb (hml.trans hl.1.symm) hown (zw hts 4 rfl) (zw hts 5 rfl) (zw hts 6 rfl) (zw hts 7 rfl) hK hP hD hS 3 0 rfl rfl 0 (i * 4) 4 zx0 (zxn (by omega)) zx4 (by omega) (by omega) (ws' := [(a1, zaJ k 120 (va_cpy fE fP 0 (i * 4) 4)), (a2, zaJ k 4 fK), (g, .inr (0, [.ref gp, .ref gs, .ref gi, .ref gr, .ref gm])), (gp, zaJ k 4 fE), (h, .inr (1, [.ref a0, .ref a1, .ref a2, .int (nI n)])), (a0, zaI k 30 fN)]) rfl (Nat.le_of_ble_eq_true rfl) (Nat.le_of_ble_eq_true rfl) dX1_put_58 (fun H locs hP hD hS => ?_)
  have hP := z_congJ hP 0 rfl (g := lay4 fP fE i) (fun j _ => lay4_cpy fP fE _ j) (ws' := [(a1, zaJ k 120 (lay4 fP fE i)), (a2, zaJ k 4 fK), (g, .inr (0, [.ref gp, .ref gs, .ref gi, .ref gr, .ref gm])), (gp, zaJ k 4 fE), (h, .inr (1, [.ref a0, .ref a1, .ref a2, .int (nI n)])), (a0, zaI k 30 fN)]) rfl
  have hD := z_congDJ hD 0 rfl (g := lay4 fP fE i) (ws' := [(a1, zaJ k 120 (lay4 fP fE i)), (a2, zaJ k 4 fK), (g, .inr (0, [.ref gp, .ref gs, .ref gi, .ref gr, .ref gm])), (gp, zaJ k 4 fE), (h, .inr (1, [.ref a0, .ref a1, .ref a2, .int (nI n)])), (a0, zaI k 30 fN)]) rfl
  refine lv_aload_n hx hb dX1_put_61 rfl (lv_at hl 1 rfl) ?_
  refine va_get (D := D) (ci := 1) (v := .int (nI n)) (C := RX1) (T := TX1) (N := 4) hx hb hts hinX1 hown hK hP 4 rfl rfl 3 (Nat.le_of_ble_eq_true rfl) hl22 (fun _ h9 => h9) rfl dX1_put_62 ?_
  have hP9 := hP.sub (ws' := [(h, .inr (1, [.ref a0, .ref a1, .ref a2, .int (nI n)])), (a0, zaI k 30 fN), (a1, zaJ k 120 (lay4 fP fE i)), (a2, zaJ k 4 fK), (g, .inr (0, [.ref gp, .ref gs, .ref gi, .ref gr, .ref gm])), (gp, zaJ k 4 fE)]) [4, 5, 0, 1, 2, 3] rfl
  have hD9 := hD.sub (ws' := [(h, .inr (1, [.ref a0, .ref a1, .ref a2, .int (nI n)])), (a0, zaI k 30 fN), (a1, zaJ k 120 (lay4 fP fE i)), (a2, zaJ k 4 fK), (g, .inr (0, [.ref gp, .ref gs, .ref gi, .ref gr, .ref gm])), (gp, zaJ k 4 fE)]) [4, 5, 0, 1, 2, 3] (by decide) rfl
  exact W.iret (v := nI n) hx hb hr (fun t9 ht9 hW9 => ⟨⟨(nI n), [(h, .inr (1, [.ref a0, .ref a1, .ref a2, .int (nI n)])), (a0, zaI k 30 fN), (a1, zaJ k 120 (lay4 fP fE i)), (a2, zaJ k 4 fK), (g, .inr (0, [.ref gp, .ref gs, .ref gi, .ref gr, .ref gm])), (gp, zaJ k 4 fE)], rfl, ⟨rfl, rfl⟩, by rw [ht9]; exact hP9, hD9⟩, hS.F ht9⟩) hS.2.2 dX1_put_65
set_option maxHeartbeats 4000000 in
set_option maxRecDepth 100000 in
theorem c_X1_put_new (l : Launch) (D : va_G) (k : Nat → ClassId) (sz : Nat) (h a0 a1 a2 n g gp gs gi gr gm : Nat) (fN : Nat → Int32) (fP fK fE : Nat → Int64) (num : Int32) (hn : n < 30) (hi3 : ∀ j, j < n → ¬ fN j = num) : Met l yX1_put wsX1_put ({ frames := 1, cells := 0, slots := 0, locals := 22 } : Room) (va_Pc [.ref h, .int num, .ref g] (zPre D k [(h, .inr (1, [.ref a0, .ref a1, .ref a2, .int (nI n)])), (a0, zaI k 30 fN), (a1, zaJ k 120 fP), (a2, zaJ k 4 fK), (g, .inr (0, [.ref gp, .ref gs, .ref gi, .ref gr, .ref gm])), (gp, zaJ k 4 fE)] sz zN)) (zQi D [(h, .inr (1, [.ref a0, .ref a1, .ref a2, .int (nI n)])), (a0, zaI k 30 fN), (a1, zaJ k 120 fP), (a2, zaJ k 4 fK), (g, .inr (0, [.ref gp, .ref gs, .ref gi, .ref gr, .ref gm])), (gp, zaJ k 4 fE)] sz (nI (n + 1)) (fun w : va_W => w = [(h, .inr (1, [.ref a0, .ref a1, .ref a2, .int (nI (n + 1))])), (a0, zaI k 30 (upd fN n num)), (a1, zaJ k 120 (lay4 fP fE n)), (a2, zaJ k 4 fK), (g, .inr (0, [.ref gp, .ref gs, .ref gi, .ref gr, .ref gm])), (gp, zaJ k 4 fE)])) 0 0 (va_A [(h, .inr (1, [.ref a0, .ref a1, .ref a2, .int (nI n)])), (a0, zaI k 30 fN), (a1, zaJ k 120 fP), (a2, zaJ k 4 fK), (g, .inr (0, [.ref gp, .ref gs, .ref gi, .ref gr, .ref gm])), (gp, zaJ k 4 fE)] sz) := by
  refine Met.ofW (cc := cX1_put) (maxL := 4) (ret := (some .int)) (by decide) rfl ?_
  intro p e s m args below meth c s₁ B hml hv
  obtain ⟨rfl, hsz, hP, hK, hD0, hE⟩ := hv
  have hx := B.exec
  have hb := B.bytes
  have hr := B.returns
  have hts := atoms_spec (ws := wsX1_put) B.pre
  have hown : s.vm.findClass RX1 = some m.cls := findClass_of_methodNamed B.named
  have hlocks := B.notSynchronized
  subst hsz
  have hD := hD0.self (sz := s.heap.size)
  delta zQi zB
  generalize hAe : va_A [(h, .inr (1, [.ref a0, .ref a1, .ref a2, .int (nI n)])), (a0, zaI k 30 fN), (a1, zaJ k 120 fP), (a2, zaJ k 4 fK), (g, .inr (0, [.ref gp, .ref gs, .ref gi, .ref gr, .ref gm])), (gp, zaJ k 4 fE)] s.heap.size = A at hD hE ⊢
  have hA : ∀ q : Nat, s.heap.size ≤ q → A q := fun q h => by rw [← hAe]; exact Or.inr h
  have hS : va_S A s.heap s.heap [] := va_S.rf
  have hl := lv_entry [.ref h, .int num, .ref g] (n := 4) (Nat.le_of_ble_eq_true rfl)
  rw [lg_entry_eq]
  generalize (lg_sl [.ref h, .int num, .ref g] ++ List.replicate (4 - (lg_sl [.ref h, .int num, .ref g]).length) Slot.unset).toArray = ls at hl ⊢
  have hl : lv_has ls 4 [(0, .ref h), (1, .int num), (2, .ref g)] := hl
  have hl22 : (Cond.fieldLink RX1 22 "InertialReference$AttitudeShelf" "count" "I").before #[Value.ref h, Value.int num, Value.ref g] s = true := zw hts 1 rfl
  have hinX1 : ∀ w ∈ u_ws RX1 TX1 4, w ∈ wsX1_put := fun w h => List.mem_cons_of_mem _ (List.mem_append_left _ (List.mem_append_right _ h))
  have hl11 : (Cond.fieldLink RX1 11 "InertialReference$AttitudeShelf" "numbers" "[I").before #[Value.ref h, Value.int num, Value.ref g] s = true := zw hts 2 rfl
  have hl30 : (Cond.fieldLinkNest RX1 30 "InertialReference$Attitude" "parts" "[J" "InertialReference").before #[Value.ref h, Value.int num, Value.ref g] s = true := va_Nw.use rfl (zn_RX1_30 hE)
  have hinX0 : ∀ w ∈ u_ws RX0 TX0 5, w ∈ wsX1_put := fun w h => List.mem_cons_of_mem _ (List.mem_append_right _ h)
  have hl15 : (Cond.fieldLink RX1 15 "InertialReference$AttitudeShelf" "stored" "[J").before #[Value.ref h, Value.int num, Value.ref g] s = true := zw hts 3 rfl
  refine lv_aload_n hx hb dX1_put_0 rfl (lv_at hl 0 rfl) ?_
  refine lv_iload_n hx hb dX1_put_1 rfl (lv_at hl 1 rfl) ?_
  refine z_calli0 (wc := [(h, .inr (1, [.ref a0, .ref a1, .ref a2, .int (nI n)])), (a0, zaI k 30 fN)]) (wr := [(a1, zaJ k 120 fP), (a2, zaJ k 4 fK), (g, .inr (0, [.ref gp, .ref gs, .ref gi, .ref gr, .ref gm])), (gp, zaJ k 4 fE)]) (va_runV (As := [.int num]) (rest := []) ⟨hx, hb, hml, hown, hts⟩ (c_X1_placeOf_no l D k s.heap.size h a0 a1 a2 n fN fP fK num (by omega) hi3) (cwV 1 hts gX1_put_X1_placeOf rfl rfl rfl (by decide +kernel) ⟨Nat.le_of_ble_eq_true rfl, Nat.le_of_ble_eq_true rfl⟩) (z_preV (wc := [(h, .inr (1, [.ref a0, .ref a1, .ref a2, .int (nI n)])), (a0, zaI k 30 fN)]) 0 1 hP hD hK [0, 1] rfl rfl rfl rfl zb0 zp0) rfl rfl hl.1 rfl (lv_room (Nat.le_of_ble_eq_true rfl)) dX1_put_2 ⟨Nat.zero_le _, Nat.zero_le _⟩) hP hD hS hA [0, 1] [2, 3, 4, 5] rfl rfl rfl (by decide) (fun w H locs hF hP hD hS => ?_)
  subst hF
  have hP : va_P D vwCl [(a1, zaJ k 120 fP), (a2, zaJ k 4 fK), (g, .inr (0, [.ref gp, .ref gs, .ref gi, .ref gr, .ref gm])), (gp, zaJ k 4 fE), (h, .inr (1, [.ref a0, .ref a1, .ref a2, .int (nI n)])), (a0, zaI k 30 fN)] H := hP
  have hD : va_D A [(a1, zaJ k 120 fP), (a2, zaJ k 4 fK), (g, .inr (0, [.ref gp, .ref gs, .ref gi, .ref gr, .ref gm])), (gp, zaJ k 4 fE), (h, .inr (1, [.ref a0, .ref a1, .ref a2, .int (nI n)])), (a0, zaI k 30 fN)] := hD
  refine lv_istore_n (lv' := [(3, .int (-1)), (0, .ref h), (1, .int num), (2, .ref g)]) hx hb dX1_put_5 rfl hl (by decide) rfl (fun ls hl => ?_)
  refine lv_iload_n hx hb dX1_put_6 rfl (lv_at hl 0 rfl) ?_
  refine lv_iconst (v := (-1)) hx hb dX1_put_7 (by decide) ?_
  refine lv_icmp_ne (tgt := 45) hx hb dX1_put_8 (by decide) (fun c => absurd c (by decide)) (fun _ => ?_)
  refine lv_aload_n hx hb dX1_put_11 rfl (lv_at hl 1 rfl) ?_
  refine va_get (D := D) (ci := 1) (v := .int (nI n)) (C := RX1) (T := TX1) (N := 4) hx hb hts hinX1 hown hK hP 4 rfl rfl 3 (Nat.le_of_ble_eq_true rfl) hl22 (fun _ h9 => h9) rfl dX1_put_12 ?_
  refine lv_bipush (v := 30) hx hb dX1_put_15 (by decide) ?_
  refine lv_icmp_lt (tgt := 23) hx hb dX1_put_17 (by decide) (fun c_1 => ?_) (fun c_1 => ?_)
  · skip
    have c_1 : ((n : Nat) : Int) < 30 := zlt c_1 (nI_toInt (by omega)) (by decide)
    refine lv_aload_n hx hb dX1_put_23 rfl (lv_at hl 1 rfl) ?_
    refine va_get (D := D) (ci := 1) (v := .int (nI n)) (C := RX1) (T := TX1) (N := 4) hx hb hts hinX1 hown hK hP 4 rfl rfl 3 (Nat.le_of_ble_eq_true rfl) hl22 (fun _ h9 => h9) rfl dX1_put_24 ?_
    refine lv_istore_n (lv' := [(3, .int (nI n)), (0, .ref h), (1, .int num), (2, .ref g)]) hx hb dX1_put_27 rfl hl (by decide) rfl (fun ls hl => ?_)
    refine lv_aload_n hx hb dX1_put_28 rfl (lv_at hl 1 rfl) ?_
    refine va_get (D := D) (ci := 1) (v := .ref a0) (C := RX1) (T := TX1) (N := 4) hx hb hts hinX1 hown hK hP 4 rfl rfl 0 (Nat.le_of_ble_eq_true rfl) hl11 (fun _ h9 => h9) rfl dX1_put_29 ?_
    refine lv_iload_n hx hb dX1_put_32 rfl (lv_at hl 0 rfl) ?_
    refine lv_iload_n hx hb dX1_put_33 rfl (lv_at hl 2 rfl) ?_
    refine z_iast hx hb hK hP hD hS 5 rfl n (zxn (by omega)) (by omega) (ws' := [(a1, zaJ k 120 fP), (a2, zaJ k 4 fK), (g, .inr (0, [.ref gp, .ref gs, .ref gi, .ref gr, .ref gm])), (gp, zaJ k 4 fE), (h, .inr (1, [.ref a0, .ref a1, .ref a2, .int (nI n)])), (a0, zaI k 30 (upd fN n num))]) rfl dX1_put_34 (fun H locs hP hD hS => ?_)
    refine lv_aload_n hx hb dX1_put_35 rfl (lv_at hl 1 rfl) ?_
    refine lv_dup hx hb dX1_put_36 rfl ?_
    refine va_get (D := D) (ci := 1) (v := .int (nI n)) (C := RX1) (T := TX1) (N := 4) hx hb hts hinX1 hown hK hP 4 rfl rfl 3 (Nat.le_of_ble_eq_true rfl) hl22 (fun _ h9 => h9) rfl dX1_put_37 ?_
    refine lv_iconst (v := 1) hx hb dX1_put_40 (by decide) ?_
    refine lv_iadd hx hb dX1_put_41 ?_
    refine W.eq (g2 := F0 m 42 ls (.int (nI (n + 1)) :: [.ref h])) (by rw [nI_1]) ?_
    refine va_put (D := D) (ci := 1) (v := .int (nI (n + 1))) (ty := .int) (C := RX1) (T := TX1) (N := 4) hx hb hts hinX1 tyX1 tyX1_ok nmX1 hown hK hP hD hS 4 rfl rfl 3 (Nat.le_of_ble_eq_true rfl) hl22 (fun _ h9 => h9) rfl  (by decide +kernel) rfl rfl (Nat.le_of_ble_eq_true rfl) dX1_put_42 (fun H locs hP hD hS => ?_)
    have hP : va_P D vwCl [(a1, zaJ k 120 fP), (a2, zaJ k 4 fK), (g, .inr (0, [.ref gp, .ref gs, .ref gi, .ref gr, .ref gm])), (gp, zaJ k 4 fE), (h, .inr (1, [.ref a0, .ref a1, .ref a2, .int (nI (n + 1))])), (a0, zaI k 30 (upd fN n num))] H := hP
    have hD : va_D A [(a1, zaJ k 120 fP), (a2, zaJ k 4 fK), (g, .inr (0, [.ref gp, .ref gs, .ref gi, .ref gr, .ref gm])), (gp, zaJ k 4 fE), (h, .inr (1, [.ref a0, .ref a1, .ref a2, .int (nI (n + 1))])), (a0, zaI k 30 (upd fN n num))] := hD
    refine lv_aload_n hx hb dX1_put_45 rfl (lv_at hl 3 rfl) ?_
    refine va_getN (D := D) (ci := 0) (v := .ref gp) (C := RX0) (T := TX0) (N := 5) hx hb hts hinX0 hown hK hP 2 rfl rfl 0 (Nat.le_of_ble_eq_true rfl) hl30 (fun _ h9 => h9) rfl dX1_put_46 ?_
    refine lv_iconst (v := 0) hx hb dX1_put_49 (by decide) ?_
    refine lv_aload_n hx hb dX1_put_50 rfl (lv_at hl 1 rfl) ?_
    refine va_get (D := D) (ci := 1) (v := .ref a1) (C := RX1) (T := TX1) (N := 4) hx hb hts hinX1 hown hK hP 4 rfl rfl 1 (Nat.le_of_ble_eq_true rfl) hl15 (fun _ h9 => h9) rfl dX1_put_51 ?_
    refine lv_iload_n hx hb dX1_put_54 rfl (lv_at hl 0 rfl) ?_
    refine lv_iconst (v := 4) hx hb dX1_put_55 (by decide) ?_
    refine lv_imul hx hb dX1_put_56 ?_
    refine W.eq (g2 := F0 m 57 ls (.int (nI (n * 4)) :: [.ref a1, .int 0, .ref gp])) (by rw [show (nI n * 4 : Int32) = nI (n * 4) from pk_mul _ _]) ?_
    refine lv_iconst (v := 4) hx hb dX1_put_57 (by decide) ?_
    refine z_copyl hx hb (hml.trans hl.1.symm) hown (zw hts 4 rfl) (zw hts 5 rfl) (zw hts 6 rfl) (zw hts 7 rfl) hK hP hD hS 3 0 rfl rfl 0 (n * 4) 4 zx0 (zxn (by omega)) zx4 (by omega) (by omega) (ws' := [(a1, zaJ k 120 (va_cpy fE fP 0 (n * 4) 4)), (a2, zaJ k 4 fK), (g, .inr (0, [.ref gp, .ref gs, .ref gi, .ref gr, .ref gm])), (gp, zaJ k 4 fE), (h, .inr (1, [.ref a0, .ref a1, .ref a2, .int (nI (n + 1))])), (a0, zaI k 30 (upd fN n num))]) rfl (Nat.le_of_ble_eq_true rfl) (Nat.le_of_ble_eq_true rfl) dX1_put_58 (fun H locs hP hD hS => ?_)
    have hP := z_congJ hP 0 rfl (g := lay4 fP fE n) (fun j _ => lay4_cpy fP fE _ j) (ws' := [(a1, zaJ k 120 (lay4 fP fE n)), (a2, zaJ k 4 fK), (g, .inr (0, [.ref gp, .ref gs, .ref gi, .ref gr, .ref gm])), (gp, zaJ k 4 fE), (h, .inr (1, [.ref a0, .ref a1, .ref a2, .int (nI (n + 1))])), (a0, zaI k 30 (upd fN n num))]) rfl
    have hD := z_congDJ hD 0 rfl (g := lay4 fP fE n) (ws' := [(a1, zaJ k 120 (lay4 fP fE n)), (a2, zaJ k 4 fK), (g, .inr (0, [.ref gp, .ref gs, .ref gi, .ref gr, .ref gm])), (gp, zaJ k 4 fE), (h, .inr (1, [.ref a0, .ref a1, .ref a2, .int (nI (n + 1))])), (a0, zaI k 30 (upd fN n num))]) rfl
    refine lv_aload_n hx hb dX1_put_61 rfl (lv_at hl 1 rfl) ?_
    refine va_get (D := D) (ci := 1) (v := .int (nI (n + 1))) (C := RX1) (T := TX1) (N := 4) hx hb hts hinX1 hown hK hP 4 rfl rfl 3 (Nat.le_of_ble_eq_true rfl) hl22 (fun _ h9 => h9) rfl dX1_put_62 ?_
    have hP9 := hP.sub (ws' := [(h, .inr (1, [.ref a0, .ref a1, .ref a2, .int (nI (n + 1))])), (a0, zaI k 30 (upd fN n num)), (a1, zaJ k 120 (lay4 fP fE n)), (a2, zaJ k 4 fK), (g, .inr (0, [.ref gp, .ref gs, .ref gi, .ref gr, .ref gm])), (gp, zaJ k 4 fE)]) [4, 5, 0, 1, 2, 3] rfl
    have hD9 := hD.sub (ws' := [(h, .inr (1, [.ref a0, .ref a1, .ref a2, .int (nI (n + 1))])), (a0, zaI k 30 (upd fN n num)), (a1, zaJ k 120 (lay4 fP fE n)), (a2, zaJ k 4 fK), (g, .inr (0, [.ref gp, .ref gs, .ref gi, .ref gr, .ref gm])), (gp, zaJ k 4 fE)]) [4, 5, 0, 1, 2, 3] (by decide) rfl
    exact W.iret (v := nI (n + 1)) hx hb hr (fun t9 ht9 hW9 => ⟨⟨(nI (n + 1)), [(h, .inr (1, [.ref a0, .ref a1, .ref a2, .int (nI (n + 1))])), (a0, zaI k 30 (upd fN n num)), (a1, zaJ k 120 (lay4 fP fE n)), (a2, zaJ k 4 fK), (g, .inr (0, [.ref gp, .ref gs, .ref gi, .ref gr, .ref gm])), (gp, zaJ k 4 fE)], rfl, ⟨rfl, rfl⟩, by rw [ht9]; exact hP9, hD9⟩, hS.F ht9⟩) hS.2.2 dX1_put_65
  · skip
    have c_1 : 30 ≤ ((n : Nat) : Int) := znlt c_1 (nI_toInt (by omega)) (by decide)
    omega
set_option maxHeartbeats 4000000 in
set_option maxRecDepth 100000 in
theorem c_X1_put_full (l : Launch) (D : va_G) (k : Nat → ClassId) (sz : Nat) (h a0 a1 a2 n g gp gs gi gr gm : Nat) (fN : Nat → Int32) (fP fK fE : Nat → Int64) (num : Int32) (hn : n = 30) (hi3 : ∀ j, j < n → ¬ fN j = num) : Met l yX1_put wsX1_put ({ frames := 1, cells := 0, slots := 0, locals := 22 } : Room) (va_Pc [.ref h, .int num, .ref g] (zPre D k [(h, .inr (1, [.ref a0, .ref a1, .ref a2, .int (nI n)])), (a0, zaI k 30 fN), (a1, zaJ k 120 fP), (a2, zaJ k 4 fK), (g, .inr (0, [.ref gp, .ref gs, .ref gi, .ref gr, .ref gm])), (gp, zaJ k 4 fE)] sz zN)) (zQi D [(h, .inr (1, [.ref a0, .ref a1, .ref a2, .int (nI n)])), (a0, zaI k 30 fN), (a1, zaJ k 120 fP), (a2, zaJ k 4 fK), (g, .inr (0, [.ref gp, .ref gs, .ref gi, .ref gr, .ref gm])), (gp, zaJ k 4 fE)] sz (-3) (fun w : va_W => w = [(h, .inr (1, [.ref a0, .ref a1, .ref a2, .int (nI n)])), (a0, zaI k 30 fN), (a1, zaJ k 120 fP), (a2, zaJ k 4 fK), (g, .inr (0, [.ref gp, .ref gs, .ref gi, .ref gr, .ref gm])), (gp, zaJ k 4 fE)])) 0 0 (va_A [(h, .inr (1, [.ref a0, .ref a1, .ref a2, .int (nI n)])), (a0, zaI k 30 fN), (a1, zaJ k 120 fP), (a2, zaJ k 4 fK), (g, .inr (0, [.ref gp, .ref gs, .ref gi, .ref gr, .ref gm])), (gp, zaJ k 4 fE)] sz) := by
  refine Met.ofW (cc := cX1_put) (maxL := 4) (ret := (some .int)) (by decide) rfl ?_
  intro p e s m args below meth c s₁ B hml hv
  obtain ⟨rfl, hsz, hP, hK, hD0, hE⟩ := hv
  have hx := B.exec
  have hb := B.bytes
  have hr := B.returns
  have hts := atoms_spec (ws := wsX1_put) B.pre
  have hown : s.vm.findClass RX1 = some m.cls := findClass_of_methodNamed B.named
  have hlocks := B.notSynchronized
  subst hsz
  have hD := hD0.self (sz := s.heap.size)
  delta zQi zB
  generalize hAe : va_A [(h, .inr (1, [.ref a0, .ref a1, .ref a2, .int (nI n)])), (a0, zaI k 30 fN), (a1, zaJ k 120 fP), (a2, zaJ k 4 fK), (g, .inr (0, [.ref gp, .ref gs, .ref gi, .ref gr, .ref gm])), (gp, zaJ k 4 fE)] s.heap.size = A at hD hE ⊢
  have hA : ∀ q : Nat, s.heap.size ≤ q → A q := fun q h => by rw [← hAe]; exact Or.inr h
  have hS : va_S A s.heap s.heap [] := va_S.rf
  have hl := lv_entry [.ref h, .int num, .ref g] (n := 4) (Nat.le_of_ble_eq_true rfl)
  rw [lg_entry_eq]
  generalize (lg_sl [.ref h, .int num, .ref g] ++ List.replicate (4 - (lg_sl [.ref h, .int num, .ref g]).length) Slot.unset).toArray = ls at hl ⊢
  have hl : lv_has ls 4 [(0, .ref h), (1, .int num), (2, .ref g)] := hl
  have hl22 : (Cond.fieldLink RX1 22 "InertialReference$AttitudeShelf" "count" "I").before #[Value.ref h, Value.int num, Value.ref g] s = true := zw hts 1 rfl
  have hinX1 : ∀ w ∈ u_ws RX1 TX1 4, w ∈ wsX1_put := fun w h => List.mem_cons_of_mem _ (List.mem_append_left _ (List.mem_append_right _ h))
  refine lv_aload_n hx hb dX1_put_0 rfl (lv_at hl 0 rfl) ?_
  refine lv_iload_n hx hb dX1_put_1 rfl (lv_at hl 1 rfl) ?_
  refine z_calli0 (wc := [(h, .inr (1, [.ref a0, .ref a1, .ref a2, .int (nI n)])), (a0, zaI k 30 fN)]) (wr := [(a1, zaJ k 120 fP), (a2, zaJ k 4 fK), (g, .inr (0, [.ref gp, .ref gs, .ref gi, .ref gr, .ref gm])), (gp, zaJ k 4 fE)]) (va_runV (As := [.int num]) (rest := []) ⟨hx, hb, hml, hown, hts⟩ (c_X1_placeOf_no l D k s.heap.size h a0 a1 a2 n fN fP fK num (by omega) hi3) (cwV 1 hts gX1_put_X1_placeOf rfl rfl rfl (by decide +kernel) ⟨Nat.le_of_ble_eq_true rfl, Nat.le_of_ble_eq_true rfl⟩) (z_preV (wc := [(h, .inr (1, [.ref a0, .ref a1, .ref a2, .int (nI n)])), (a0, zaI k 30 fN)]) 0 1 hP hD hK [0, 1] rfl rfl rfl rfl zb0 zp0) rfl rfl hl.1 rfl (lv_room (Nat.le_of_ble_eq_true rfl)) dX1_put_2 ⟨Nat.zero_le _, Nat.zero_le _⟩) hP hD hS hA [0, 1] [2, 3, 4, 5] rfl rfl rfl (by decide) (fun w H locs hF hP hD hS => ?_)
  subst hF
  have hP : va_P D vwCl [(a1, zaJ k 120 fP), (a2, zaJ k 4 fK), (g, .inr (0, [.ref gp, .ref gs, .ref gi, .ref gr, .ref gm])), (gp, zaJ k 4 fE), (h, .inr (1, [.ref a0, .ref a1, .ref a2, .int (nI n)])), (a0, zaI k 30 fN)] H := hP
  have hD : va_D A [(a1, zaJ k 120 fP), (a2, zaJ k 4 fK), (g, .inr (0, [.ref gp, .ref gs, .ref gi, .ref gr, .ref gm])), (gp, zaJ k 4 fE), (h, .inr (1, [.ref a0, .ref a1, .ref a2, .int (nI n)])), (a0, zaI k 30 fN)] := hD
  refine lv_istore_n (lv' := [(3, .int (-1)), (0, .ref h), (1, .int num), (2, .ref g)]) hx hb dX1_put_5 rfl hl (by decide) rfl (fun ls hl => ?_)
  refine lv_iload_n hx hb dX1_put_6 rfl (lv_at hl 0 rfl) ?_
  refine lv_iconst (v := (-1)) hx hb dX1_put_7 (by decide) ?_
  refine lv_icmp_ne (tgt := 45) hx hb dX1_put_8 (by decide) (fun c => absurd c (by decide)) (fun _ => ?_)
  refine lv_aload_n hx hb dX1_put_11 rfl (lv_at hl 1 rfl) ?_
  refine va_get (D := D) (ci := 1) (v := .int (nI n)) (C := RX1) (T := TX1) (N := 4) hx hb hts hinX1 hown hK hP 4 rfl rfl 3 (Nat.le_of_ble_eq_true rfl) hl22 (fun _ h9 => h9) rfl dX1_put_12 ?_
  refine lv_bipush (v := 30) hx hb dX1_put_15 (by decide) ?_
  refine lv_icmp_lt (tgt := 23) hx hb dX1_put_17 (by decide) (fun c_1 => ?_) (fun c_1 => ?_)
  · skip
    have c_1 : ((n : Nat) : Int) < 30 := zlt c_1 (nI_toInt (by omega)) (by decide)
    omega
  · skip
    have c_1 : 30 ≤ ((n : Nat) : Int) := znlt c_1 (nI_toInt (by omega)) (by decide)
    refine lv_bipush (v := (-3)) hx hb dX1_put_20 (by decide) ?_
    have hP9 := hP.sub (ws' := [(h, .inr (1, [.ref a0, .ref a1, .ref a2, .int (nI n)])), (a0, zaI k 30 fN), (a1, zaJ k 120 fP), (a2, zaJ k 4 fK), (g, .inr (0, [.ref gp, .ref gs, .ref gi, .ref gr, .ref gm])), (gp, zaJ k 4 fE)]) [4, 5, 0, 1, 2, 3] rfl
    have hD9 := hD.sub (ws' := [(h, .inr (1, [.ref a0, .ref a1, .ref a2, .int (nI n)])), (a0, zaI k 30 fN), (a1, zaJ k 120 fP), (a2, zaJ k 4 fK), (g, .inr (0, [.ref gp, .ref gs, .ref gi, .ref gr, .ref gm])), (gp, zaJ k 4 fE)]) [4, 5, 0, 1, 2, 3] (by decide) rfl
    exact W.iret (v := (-3)) hx hb hr (fun t9 ht9 hW9 => ⟨⟨(-3), [(h, .inr (1, [.ref a0, .ref a1, .ref a2, .int (nI n)])), (a0, zaI k 30 fN), (a1, zaJ k 120 fP), (a2, zaJ k 4 fK), (g, .inr (0, [.ref gp, .ref gs, .ref gi, .ref gr, .ref gm])), (gp, zaJ k 4 fE)], rfl, ⟨rfl, rfl⟩, by rw [ht9]; exact hP9, hD9⟩, hS.F ht9⟩) hS.2.2 dX1_put_22
set_option maxHeartbeats 4000000 in
set_option maxRecDepth 100000 in
theorem c_X1_at (l : Launch) (D : va_G) (k : Nat → ClassId) (sz : Nat) (h a0 a1 a2 n : Nat) (fN : Nat → Int32) (fP fK : Nat → Int64) (i : Nat) (hn : n ≤ 30) (hi : i < n) : Met l yX1_at wsX1_at ({ frames := 1, cells := 0, slots := 0, locals := 18 } : Room) (va_Pc [.ref h, .int (nI i)] (zPre D k [(h, .inr (1, [.ref a0, .ref a1, .ref a2, .int (nI n)])), (a0, zaI k 30 fN), (a1, zaJ k 120 fP), (a2, zaJ k 4 fK)] sz zX0)) (zQr D [(h, .inr (1, [.ref a0, .ref a1, .ref a2, .int (nI n)])), (a0, zaI k 30 fN), (a1, zaJ k 120 fP), (a2, zaJ k 4 fK)] sz a2 (fun w : va_W => w = [(h, .inr (1, [.ref a0, .ref a1, .ref a2, .int (nI n)])), (a0, zaI k 30 fN), (a1, zaJ k 120 fP), (a2, zaJ k 4 (pick fP i))])) 0 0 (va_A [(h, .inr (1, [.ref a0, .ref a1, .ref a2, .int (nI n)])), (a0, zaI k 30 fN), (a1, zaJ k 120 fP), (a2, zaJ k 4 fK)] sz) := by
  refine Met.ofW (cc := cX1_at) (maxL := 2) (ret := (some (.array .long))) (by decide) rfl ?_
  intro p e s m args below meth c s₁ B hml hv
  obtain ⟨rfl, hsz, hP, hK, hD0, hE⟩ := hv
  have hx := B.exec
  have hb := B.bytes
  have hr := B.returns
  have hts := atoms_spec (ws := wsX1_at) B.pre
  have hown : s.vm.findClass RX1 = some m.cls := findClass_of_methodNamed B.named
  have hlocks := B.notSynchronized
  subst hsz
  have hD := hD0.self (sz := s.heap.size)
  delta zQr zB
  generalize hAe : va_A [(h, .inr (1, [.ref a0, .ref a1, .ref a2, .int (nI n)])), (a0, zaI k 30 fN), (a1, zaJ k 120 fP), (a2, zaJ k 4 fK)] s.heap.size = A at hD hE ⊢
  have hA : ∀ q : Nat, s.heap.size ≤ q → A q := fun q h => by rw [← hAe]; exact Or.inr h
  have hS : va_S A s.heap s.heap [] := va_S.rf
  have hl := lv_entry [.ref h, .int (nI i)] (n := 2) (Nat.le_of_ble_eq_true rfl)
  rw [lg_entry_eq]
  generalize (lg_sl [.ref h, .int (nI i)] ++ List.replicate (2 - (lg_sl [.ref h, .int (nI i)]).length) Slot.unset).toArray = ls at hl ⊢
  have hl : lv_has ls 2 [(0, .ref h), (1, .int (nI i))] := hl
  have hl22 : (Cond.fieldLink RX1 22 "InertialReference$AttitudeShelf" "count" "I").before #[Value.ref h, Value.int (nI i)] s = true := zw hts 1 rfl
  have hinX1 : ∀ w ∈ u_ws RX1 TX1 4, w ∈ wsX1_at := fun w h => List.mem_cons_of_mem _ (List.mem_append_right _ h)
  have hl15 : (Cond.fieldLink RX1 15 "InertialReference$AttitudeShelf" "stored" "[J").before #[Value.ref h, Value.int (nI i)] s = true := zw hts 2 rfl
  have hl19 : (Cond.fieldLink RX1 19 "InertialReference$AttitudeShelf" "picked" "[J").before #[Value.ref h, Value.int (nI i)] s = true := zw hts 3 rfl
  refine lv_iload_n hx hb dX1_at_0 rfl (lv_at hl 1 rfl) ?_
  refine lv_if_lt (tgt := 28) hx hb dX1_at_1 (by decide) (fun c => absurd c (fun h => absurd (zlt h (nI_toInt (by omega)) (by decide : (0 : Int32).toInt = 0)) (by omega))) (fun c => ?_)
  refine lv_iload_n hx hb dX1_at_4 rfl (lv_at hl 1 rfl) ?_
  refine lv_aload_n hx hb dX1_at_5 rfl (lv_at hl 0 rfl) ?_
  refine va_get (D := D) (ci := 1) (v := .int (nI n)) (C := RX1) (T := TX1) (N := 4) hx hb hts hinX1 hown hK hP 0 rfl rfl 3 (Nat.le_of_ble_eq_true rfl) hl22 (fun _ h9 => h9) rfl dX1_at_6 ?_
  refine lv_icmp_ge (tgt := 28) hx hb dX1_at_9 (by decide) (fun c => absurd c (nI_ge (by omega) (by omega))) (fun c => ?_)
  refine lv_aload_n hx hb dX1_at_12 rfl (lv_at hl 0 rfl) ?_
  refine va_get (D := D) (ci := 1) (v := .ref a1) (C := RX1) (T := TX1) (N := 4) hx hb hts hinX1 hown hK hP 0 rfl rfl 1 (Nat.le_of_ble_eq_true rfl) hl15 (fun _ h9 => h9) rfl dX1_at_13 ?_
  refine lv_iload_n hx hb dX1_at_16 rfl (lv_at hl 1 rfl) ?_
  refine lv_iconst (v := 4) hx hb dX1_at_17 (by decide) ?_
  refine lv_imul hx hb dX1_at_18 ?_
  refine W.eq (g2 := F0 m 19 ls (.int (nI (i * 4)) :: [.ref a1])) (by rw [show (nI i * 4 : Int32) = nI (i * 4) from pk_mul _ _]) ?_
  refine lv_aload_n hx hb dX1_at_19 rfl (lv_at hl 0 rfl) ?_
  refine va_get (D := D) (ci := 1) (v := .ref a2) (C := RX1) (T := TX1) (N := 4) hx hb hts hinX1 hown hK hP 0 rfl rfl 2 (Nat.le_of_ble_eq_true rfl) hl19 (fun _ h9 => h9) rfl dX1_at_20 ?_
  refine lv_iconst (v := 0) hx hb dX1_at_23 (by decide) ?_
  refine lv_iconst (v := 4) hx hb dX1_at_24 (by decide) ?_
  refine z_copyl hx hb (hml.trans hl.1.symm) hown (zw hts 4 rfl) (zw hts 5 rfl) (zw hts 6 rfl) (zw hts 7 rfl) hK hP hD hS 2 3 rfl rfl (i * 4) 0 4 (zxn (by omega)) zx0 zx4 (by omega) (by omega) (ws' := [(h, .inr (1, [.ref a0, .ref a1, .ref a2, .int (nI n)])), (a0, zaI k 30 fN), (a1, zaJ k 120 fP), (a2, zaJ k 4 (va_cpy fP fK (i * 4) 0 4))]) rfl (Nat.le_of_ble_eq_true rfl) (Nat.le_of_ble_eq_true rfl) dX1_at_25 (fun H locs hP hD hS => ?_)
  have hP := z_congJ hP 3 rfl (g := pick fP i) (fun j hj => pick_cpy fP fK i hj) (ws' := [(h, .inr (1, [.ref a0, .ref a1, .ref a2, .int (nI n)])), (a0, zaI k 30 fN), (a1, zaJ k 120 fP), (a2, zaJ k 4 (pick fP i))]) rfl
  have hD := z_congDJ hD 3 rfl (g := pick fP i) (ws' := [(h, .inr (1, [.ref a0, .ref a1, .ref a2, .int (nI n)])), (a0, zaI k 30 fN), (a1, zaJ k 120 fP), (a2, zaJ k 4 (pick fP i))]) rfl
  refine lv_aload_n hx hb dX1_at_28 rfl (lv_at hl 0 rfl) ?_
  refine va_get (D := D) (ci := 1) (v := .ref a2) (C := RX1) (T := TX1) (N := 4) hx hb hts hinX1 hown hK hP 0 rfl rfl 2 (Nat.le_of_ble_eq_true rfl) hl19 (fun _ h9 => h9) rfl dX1_at_29 ?_
  have hP9 := hP.sub (ws' := [(h, .inr (1, [.ref a0, .ref a1, .ref a2, .int (nI n)])), (a0, zaI k 30 fN), (a1, zaJ k 120 fP), (a2, zaJ k 4 (pick fP i))]) [0, 1, 2, 3] rfl
  have hD9 := hD.sub (ws' := [(h, .inr (1, [.ref a0, .ref a1, .ref a2, .int (nI n)])), (a0, zaI k 30 fN), (a1, zaJ k 120 fP), (a2, zaJ k 4 (pick fP i))]) [0, 1, 2, 3] (by decide) rfl
  exact W.aret (rt := .array .long) hx hb hr (Or.inr ⟨_, rfl⟩) (Or.inr ⟨_, rfl⟩) (fun t9 ht9 hW9 => ⟨⟨[(h, .inr (1, [.ref a0, .ref a1, .ref a2, .int (nI n)])), (a0, zaI k 30 fN), (a1, zaJ k 120 fP), (a2, zaJ k 4 (pick fP i))], a2, rfl, rfl, rfl, by rw [ht9]; exact hP9, hD9⟩, hS.F ht9⟩) hS.2.2 dX1_at_32
set_option maxHeartbeats 4000000 in
set_option maxRecDepth 100000 in
theorem c_X1_remove (l : Launch) (D : va_G) (k : Nat → ClassId) (sz : Nat) (h a0 a1 a2 n : Nat) (fN : Nat → Int32) (fP fK : Nat → Int64) (i : Nat) (hn : n ≤ 30) (hi : i < n) : Met l yX1_remove wsX1_remove ({ frames := 1, cells := 0, slots := 0, locals := 18 } : Room) (va_Pc [.ref h, .int (nI i)] (zPre D k [(h, .inr (1, [.ref a0, .ref a1, .ref a2, .int (nI n)])), (a0, zaI k 30 fN), (a1, zaJ k 120 fP), (a2, zaJ k 4 fK)] sz zX0)) (zQi D [(h, .inr (1, [.ref a0, .ref a1, .ref a2, .int (nI n)])), (a0, zaI k 30 fN), (a1, zaJ k 120 fP), (a2, zaJ k 4 fK)] sz (nI (n - 1)) (fun w : va_W => w = [(h, .inr (1, [.ref a0, .ref a1, .ref a2, .int (nI (n - 1))])), (a0, zaI k 30 (del fN i n)), (a1, zaJ k 120 (del4 fP i n)), (a2, zaJ k 4 fK)])) 0 0 (va_A [(h, .inr (1, [.ref a0, .ref a1, .ref a2, .int (nI n)])), (a0, zaI k 30 fN), (a1, zaJ k 120 fP), (a2, zaJ k 4 fK)] sz) := by
  refine Met.ofW (cc := cX1_remove) (maxL := 3) (ret := (some .int)) (by decide) rfl ?_
  intro p e s m args below meth c s₁ B hml hv
  obtain ⟨rfl, hsz, hP, hK, hD0, hE⟩ := hv
  have hx := B.exec
  have hb := B.bytes
  have hr := B.returns
  have hts := atoms_spec (ws := wsX1_remove) B.pre
  have hown : s.vm.findClass RX1 = some m.cls := findClass_of_methodNamed B.named
  have hlocks := B.notSynchronized
  subst hsz
  have hD := hD0.self (sz := s.heap.size)
  delta zQi zB
  generalize hAe : va_A [(h, .inr (1, [.ref a0, .ref a1, .ref a2, .int (nI n)])), (a0, zaI k 30 fN), (a1, zaJ k 120 fP), (a2, zaJ k 4 fK)] s.heap.size = A at hD hE ⊢
  have hA : ∀ q : Nat, s.heap.size ≤ q → A q := fun q h => by rw [← hAe]; exact Or.inr h
  have hS : va_S A s.heap s.heap [] := va_S.rf
  have hl := lv_entry [.ref h, .int (nI i)] (n := 3) (Nat.le_of_ble_eq_true rfl)
  rw [lg_entry_eq]
  generalize (lg_sl [.ref h, .int (nI i)] ++ List.replicate (3 - (lg_sl [.ref h, .int (nI i)]).length) Slot.unset).toArray = ls at hl ⊢
  have hl : lv_has ls 3 [(0, .ref h), (1, .int (nI i))] := hl
  have hl22 : (Cond.fieldLink RX1 22 "InertialReference$AttitudeShelf" "count" "I").before #[Value.ref h, Value.int (nI i)] s = true := zw hts 1 rfl
  have hinX1 : ∀ w ∈ u_ws RX1 TX1 4, w ∈ wsX1_remove := fun w h => List.mem_cons_of_mem _ (List.mem_append_right _ h)
  have hl11 : (Cond.fieldLink RX1 11 "InertialReference$AttitudeShelf" "numbers" "[I").before #[Value.ref h, Value.int (nI i)] s = true := zw hts 2 rfl
  have hl15 : (Cond.fieldLink RX1 15 "InertialReference$AttitudeShelf" "stored" "[J").before #[Value.ref h, Value.int (nI i)] s = true := zw hts 7 rfl
  refine lv_iload_n hx hb dX1_remove_0 rfl (lv_at hl 1 rfl) ?_
  refine lv_if_lt (tgt := 69) hx hb dX1_remove_1 (by decide) (fun c => absurd c (fun h => absurd (zlt h (nI_toInt (by omega)) (by decide : (0 : Int32).toInt = 0)) (by omega))) (fun c => ?_)
  refine lv_iload_n hx hb dX1_remove_4 rfl (lv_at hl 1 rfl) ?_
  refine lv_aload_n hx hb dX1_remove_5 rfl (lv_at hl 0 rfl) ?_
  refine va_get (D := D) (ci := 1) (v := .int (nI n)) (C := RX1) (T := TX1) (N := 4) hx hb hts hinX1 hown hK hP 0 rfl rfl 3 (Nat.le_of_ble_eq_true rfl) hl22 (fun _ h9 => h9) rfl dX1_remove_6 ?_
  refine lv_icmp_ge (tgt := 69) hx hb dX1_remove_9 (by decide) (fun c => absurd c (nI_ge (by omega) (by omega))) (fun c => ?_)
  refine lv_aload_n hx hb dX1_remove_12 rfl (lv_at hl 0 rfl) ?_
  refine va_get (D := D) (ci := 1) (v := .int (nI n)) (C := RX1) (T := TX1) (N := 4) hx hb hts hinX1 hown hK hP 0 rfl rfl 3 (Nat.le_of_ble_eq_true rfl) hl22 (fun _ h9 => h9) rfl dX1_remove_13 ?_
  refine lv_iload_n hx hb dX1_remove_16 rfl (lv_at hl 1 rfl) ?_
  refine lv_isub hx hb dX1_remove_17 ?_
  refine W.eq (g2 := F0 m 18 ls (.int (nI (n - i)) :: [])) (by rw [pk_sub (by omega)]) ?_
  refine lv_iconst (v := 1) hx hb dX1_remove_18 (by decide) ?_
  refine lv_isub hx hb dX1_remove_19 ?_
  refine W.eq (g2 := F0 m 20 ls (.int (nI ((n - i) - 1)) :: [])) (by rw [znI_sub1 (by omega)]) ?_
  refine lv_istore_n (lv' := [(2, .int (nI ((n - i) - 1))), (0, .ref h), (1, .int (nI i))]) hx hb dX1_remove_20 rfl hl (by decide) rfl (fun ls hl => ?_)
  refine lv_aload_n hx hb dX1_remove_21 rfl (lv_at hl 1 rfl) ?_
  refine va_get (D := D) (ci := 1) (v := .ref a0) (C := RX1) (T := TX1) (N := 4) hx hb hts hinX1 hown hK hP 0 rfl rfl 0 (Nat.le_of_ble_eq_true rfl) hl11 (fun _ h9 => h9) rfl dX1_remove_22 ?_
  refine lv_iload_n hx hb dX1_remove_25 rfl (lv_at hl 2 rfl) ?_
  refine lv_iconst (v := 1) hx hb dX1_remove_26 (by decide) ?_
  refine lv_iadd hx hb dX1_remove_27 ?_
  refine W.eq (g2 := F0 m 28 ls (.int (nI (i + 1)) :: [.ref a0])) (by rw [nI_1]) ?_
  refine lv_aload_n hx hb dX1_remove_28 rfl (lv_at hl 1 rfl) ?_
  refine va_get (D := D) (ci := 1) (v := .ref a0) (C := RX1) (T := TX1) (N := 4) hx hb hts hinX1 hown hK hP 0 rfl rfl 0 (Nat.le_of_ble_eq_true rfl) hl11 (fun _ h9 => h9) rfl dX1_remove_29 ?_
  refine lv_iload_n hx hb dX1_remove_32 rfl (lv_at hl 2 rfl) ?_
  refine lv_iload_n hx hb dX1_remove_33 rfl (lv_at hl 0 rfl) ?_
  refine z_copyi hx hb (hml.trans hl.1.symm) hown (zw hts 3 rfl) (zw hts 4 rfl) (zw hts 5 rfl) (zw hts 6 rfl) hK hP hD hS 1 1 rfl rfl (i + 1) i ((n - i) - 1) (zxn (by omega)) (zxn (by omega)) (zxn (by omega)) (by omega) (by omega) (ws' := [(h, .inr (1, [.ref a0, .ref a1, .ref a2, .int (nI n)])), (a0, zaI k 30 (va_cpy fN fN (i + 1) i ((n - i) - 1))), (a1, zaJ k 120 fP), (a2, zaJ k 4 fK)]) rfl (Nat.le_of_ble_eq_true rfl) (Nat.le_of_ble_eq_true rfl) dX1_remove_34 (fun H locs hP hD hS => ?_)
  have hP := z_congI hP 1 rfl (g := del fN i n) (fun j _ => del_cpy fN hi j) (ws' := [(h, .inr (1, [.ref a0, .ref a1, .ref a2, .int (nI n)])), (a0, zaI k 30 (del fN i n)), (a1, zaJ k 120 fP), (a2, zaJ k 4 fK)]) rfl
  have hD := z_congDI hD 1 rfl (g := del fN i n) (ws' := [(h, .inr (1, [.ref a0, .ref a1, .ref a2, .int (nI n)])), (a0, zaI k 30 (del fN i n)), (a1, zaJ k 120 fP), (a2, zaJ k 4 fK)]) rfl
  refine lv_aload_n hx hb dX1_remove_37 rfl (lv_at hl 1 rfl) ?_
  refine va_get (D := D) (ci := 1) (v := .ref a1) (C := RX1) (T := TX1) (N := 4) hx hb hts hinX1 hown hK hP 0 rfl rfl 1 (Nat.le_of_ble_eq_true rfl) hl15 (fun _ h9 => h9) rfl dX1_remove_38 ?_
  refine lv_iload_n hx hb dX1_remove_41 rfl (lv_at hl 2 rfl) ?_
  refine lv_iconst (v := 1) hx hb dX1_remove_42 (by decide) ?_
  refine lv_iadd hx hb dX1_remove_43 ?_
  refine W.eq (g2 := F0 m 44 ls (.int (nI (i + 1)) :: [.ref a1])) (by rw [nI_1]) ?_
  refine lv_iconst (v := 4) hx hb dX1_remove_44 (by decide) ?_
  refine lv_imul hx hb dX1_remove_45 ?_
  refine W.eq (g2 := F0 m 46 ls (.int (nI ((i + 1) * 4)) :: [.ref a1])) (by rw [show (nI (i + 1) * 4 : Int32) = nI ((i + 1) * 4) from pk_mul _ _]) ?_
  refine lv_aload_n hx hb dX1_remove_46 rfl (lv_at hl 1 rfl) ?_
  refine va_get (D := D) (ci := 1) (v := .ref a1) (C := RX1) (T := TX1) (N := 4) hx hb hts hinX1 hown hK hP 0 rfl rfl 1 (Nat.le_of_ble_eq_true rfl) hl15 (fun _ h9 => h9) rfl dX1_remove_47 ?_
  refine lv_iload_n hx hb dX1_remove_50 rfl (lv_at hl 2 rfl) ?_
  refine lv_iconst (v := 4) hx hb dX1_remove_51 (by decide) ?_
  refine lv_imul hx hb dX1_remove_52 ?_
  refine W.eq (g2 := F0 m 53 ls (.int (nI (i * 4)) :: [.ref a1, .int (nI ((i + 1) * 4)), .ref a1])) (by rw [show (nI i * 4 : Int32) = nI (i * 4) from pk_mul _ _]) ?_
  refine lv_iload_n hx hb dX1_remove_53 rfl (lv_at hl 0 rfl) ?_
  refine lv_iconst (v := 4) hx hb dX1_remove_54 (by decide) ?_
  refine lv_imul hx hb dX1_remove_55 ?_
  refine W.eq (g2 := F0 m 56 ls (.int (nI (((n - i) - 1) * 4)) :: [.int (nI (i * 4)), .ref a1, .int (nI ((i + 1) * 4)), .ref a1])) (by rw [show (nI ((n - i) - 1) * 4 : Int32) = nI (((n - i) - 1) * 4) from pk_mul _ _]) ?_
  refine z_copyl hx hb (hml.trans hl.1.symm) hown (zw hts 3 rfl) (zw hts 4 rfl) (zw hts 5 rfl) (zw hts 6 rfl) hK hP hD hS 2 2 rfl rfl ((i + 1) * 4) (i * 4) (((n - i) - 1) * 4) (zxn (by omega)) (zxn (by omega)) (zxn (by omega)) (by omega) (by omega) (ws' := [(h, .inr (1, [.ref a0, .ref a1, .ref a2, .int (nI n)])), (a0, zaI k 30 (del fN i n)), (a1, zaJ k 120 (va_cpy fP fP ((i + 1) * 4) (i * 4) (((n - i) - 1) * 4))), (a2, zaJ k 4 fK)]) rfl (Nat.le_of_ble_eq_true rfl) (Nat.le_of_ble_eq_true rfl) dX1_remove_56 (fun H locs hP hD hS => ?_)
  have hP := z_congJ hP 2 rfl (g := del4 fP i n) (fun j _ => del4_cpy fP hi j) (ws' := [(h, .inr (1, [.ref a0, .ref a1, .ref a2, .int (nI n)])), (a0, zaI k 30 (del fN i n)), (a1, zaJ k 120 (del4 fP i n)), (a2, zaJ k 4 fK)]) rfl
  have hD := z_congDJ hD 2 rfl (g := del4 fP i n) (ws' := [(h, .inr (1, [.ref a0, .ref a1, .ref a2, .int (nI n)])), (a0, zaI k 30 (del fN i n)), (a1, zaJ k 120 (del4 fP i n)), (a2, zaJ k 4 fK)]) rfl
  refine lv_aload_n hx hb dX1_remove_59 rfl (lv_at hl 1 rfl) ?_
  refine lv_dup hx hb dX1_remove_60 rfl ?_
  refine va_get (D := D) (ci := 1) (v := .int (nI n)) (C := RX1) (T := TX1) (N := 4) hx hb hts hinX1 hown hK hP 0 rfl rfl 3 (Nat.le_of_ble_eq_true rfl) hl22 (fun _ h9 => h9) rfl dX1_remove_61 ?_
  refine lv_iconst (v := 1) hx hb dX1_remove_64 (by decide) ?_
  refine lv_isub hx hb dX1_remove_65 ?_
  refine W.eq (g2 := F0 m 66 ls (.int (nI (n - 1)) :: [.ref h])) (by rw [znI_sub1 (by omega)]) ?_
  refine va_put (D := D) (ci := 1) (v := .int (nI (n - 1))) (ty := .int) (C := RX1) (T := TX1) (N := 4) hx hb hts hinX1 tyX1 tyX1_ok nmX1 hown hK hP hD hS 0 rfl rfl 3 (Nat.le_of_ble_eq_true rfl) hl22 (fun _ h9 => h9) rfl  (by decide +kernel) rfl rfl (Nat.le_of_ble_eq_true rfl) dX1_remove_66 (fun H locs hP hD hS => ?_)
  have hP : va_P D vwCl [(h, .inr (1, [.ref a0, .ref a1, .ref a2, .int (nI (n - 1))])), (a0, zaI k 30 (del fN i n)), (a1, zaJ k 120 (del4 fP i n)), (a2, zaJ k 4 fK)] H := hP
  have hD : va_D A [(h, .inr (1, [.ref a0, .ref a1, .ref a2, .int (nI (n - 1))])), (a0, zaI k 30 (del fN i n)), (a1, zaJ k 120 (del4 fP i n)), (a2, zaJ k 4 fK)] := hD
  refine lv_aload_n hx hb dX1_remove_69 rfl (lv_at hl 1 rfl) ?_
  refine va_get (D := D) (ci := 1) (v := .int (nI (n - 1))) (C := RX1) (T := TX1) (N := 4) hx hb hts hinX1 hown hK hP 0 rfl rfl 3 (Nat.le_of_ble_eq_true rfl) hl22 (fun _ h9 => h9) rfl dX1_remove_70 ?_
  have hP9 := hP.sub (ws' := [(h, .inr (1, [.ref a0, .ref a1, .ref a2, .int (nI (n - 1))])), (a0, zaI k 30 (del fN i n)), (a1, zaJ k 120 (del4 fP i n)), (a2, zaJ k 4 fK)]) [0, 1, 2, 3] rfl
  have hD9 := hD.sub (ws' := [(h, .inr (1, [.ref a0, .ref a1, .ref a2, .int (nI (n - 1))])), (a0, zaI k 30 (del fN i n)), (a1, zaJ k 120 (del4 fP i n)), (a2, zaJ k 4 fK)]) [0, 1, 2, 3] (by decide) rfl
  exact W.iret (v := nI (n - 1)) hx hb hr (fun t9 ht9 hW9 => ⟨⟨(nI (n - 1)), [(h, .inr (1, [.ref a0, .ref a1, .ref a2, .int (nI (n - 1))])), (a0, zaI k 30 (del fN i n)), (a1, zaJ k 120 (del4 fP i n)), (a2, zaJ k 4 fK)], rfl, ⟨rfl, rfl⟩, by rw [ht9]; exact hP9, hD9⟩, hS.F ht9⟩) hS.2.2 dX1_remove_73
set_option maxHeartbeats 4000000 in
set_option maxRecDepth 100000 in
theorem c_X1_empty (l : Launch) (D : va_G) (k : Nat → ClassId) (sz : Nat) (h a0 a1 a2 : Nat) (q : Int32) : Met l yX1_empty wsX1_empty ({ frames := 0, cells := 0, slots := 0, locals := 0 } : Room) (va_Pc [.ref h] (zPre D k [(h, .inr (1, [.ref a0, .ref a1, .ref a2, .int q]))] sz zX0)) (zQv D [(h, .inr (1, [.ref a0, .ref a1, .ref a2, .int q]))] sz (fun w : va_W => w = [(h, .inr (1, [.ref a0, .ref a1, .ref a2, .int 0]))])) 0 0 (va_A [(h, .inr (1, [.ref a0, .ref a1, .ref a2, .int q]))] sz) := by
  refine Met.ofW (cc := cX1_empty) (maxL := 1) (ret := none) (by decide) rfl ?_
  intro p e s m args below meth c s₁ B hml hv
  obtain ⟨rfl, hsz, hP, hK, hD0, hE⟩ := hv
  have hx := B.exec
  have hb := B.bytes
  have hr := B.returns
  have hts := atoms_spec (ws := wsX1_empty) B.pre
  have hown : s.vm.findClass RX1 = some m.cls := findClass_of_methodNamed B.named
  have hlocks := B.notSynchronized
  subst hsz
  have hD := hD0.self (sz := s.heap.size)
  delta zQv zB
  generalize hAe : va_A [(h, .inr (1, [.ref a0, .ref a1, .ref a2, .int q]))] s.heap.size = A at hD hE ⊢
  have hA : ∀ q : Nat, s.heap.size ≤ q → A q := fun q h => by rw [← hAe]; exact Or.inr h
  have hS : va_S A s.heap s.heap [] := va_S.rf
  have hl := lv_entry [.ref h] (n := 1) (Nat.le_of_ble_eq_true rfl)
  rw [lg_entry_eq]
  generalize (lg_sl [.ref h] ++ List.replicate (1 - (lg_sl [.ref h]).length) Slot.unset).toArray = ls at hl ⊢
  have hl : lv_has ls 1 [(0, .ref h)] := hl
  have hl22 : (Cond.fieldLink RX1 22 "InertialReference$AttitudeShelf" "count" "I").before #[Value.ref h] s = true := zw hts 1 rfl
  have hinX1 : ∀ w ∈ u_ws RX1 TX1 4, w ∈ wsX1_empty := fun w h => List.mem_cons_of_mem _ (List.mem_append_right _ h)
  refine lv_aload_n hx hb dX1_empty_0 rfl (lv_at hl 0 rfl) ?_
  refine lv_iconst (v := 0) hx hb dX1_empty_1 (by decide) ?_
  refine va_put (D := D) (ci := 1) (v := .int 0) (ty := .int) (C := RX1) (T := TX1) (N := 4) hx hb hts hinX1 tyX1 tyX1_ok nmX1 hown hK hP hD hS 0 rfl rfl 3 (Nat.le_of_ble_eq_true rfl) hl22 (fun _ h9 => h9) rfl  (by decide +kernel) rfl rfl (Nat.le_of_ble_eq_true rfl) dX1_empty_2 (fun H locs hP hD hS => ?_)
  have hP : va_P D vwCl [(h, .inr (1, [.ref a0, .ref a1, .ref a2, .int 0]))] H := hP
  have hD : va_D A [(h, .inr (1, [.ref a0, .ref a1, .ref a2, .int 0]))] := hD
  have hP9 := hP.sub (ws' := [(h, .inr (1, [.ref a0, .ref a1, .ref a2, .int 0]))]) [0] rfl
  have hD9 := hD.sub (ws' := [(h, .inr (1, [.ref a0, .ref a1, .ref a2, .int 0]))]) [0] (by decide) rfl
  exact W.vret hx hb hr (fun t9 ht9 hW9 => ⟨⟨[(h, .inr (1, [.ref a0, .ref a1, .ref a2, .int 0]))], rfl, rfl, by rw [ht9]; exact hP9, hD9⟩, hS.F ht9⟩) hS.2.2 dX1_empty_5
