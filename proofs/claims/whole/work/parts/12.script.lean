set_option maxHeartbeats 4000000 in
set_option maxRecDepth 100000 in
theorem c_X6_append_ok (l : Launch) (D : va_G) (k : Nat → ClassId) (sz : Nat) (h a0 a1 a2 a3 n : Nat) (fT fX fY fZ : Nat → Int32) (t x y z : Int32) (hn : n < 20) : Met l yX6_append wsX6_append ({ frames := 0, cells := 0, slots := 0, locals := 0 } : Room) (va_Pc [.ref h, .int t, .int x, .int y, .int z] (zPre D k [(h, .inr (5, [.ref a0, .ref a1, .ref a2, .ref a3, .int (nI n)])), (a0, zaI k 20 fT), (a1, zaI k 20 fX), (a2, zaI k 20 fY), (a3, zaI k 20 fZ)] sz zX0)) (zQi D [(h, .inr (5, [.ref a0, .ref a1, .ref a2, .ref a3, .int (nI n)])), (a0, zaI k 20 fT), (a1, zaI k 20 fX), (a2, zaI k 20 fY), (a3, zaI k 20 fZ)] sz (nI (n + 1)) (fun w : va_W => w = [(h, .inr (5, [.ref a0, .ref a1, .ref a2, .ref a3, .int (nI (n + 1))])), (a0, zaI k 20 (upd fT n t)), (a1, zaI k 20 (upd fX n x)), (a2, zaI k 20 (upd fY n y)), (a3, zaI k 20 (upd fZ n z))])) 0 0 (va_A [(h, .inr (5, [.ref a0, .ref a1, .ref a2, .ref a3, .int (nI n)])), (a0, zaI k 20 fT), (a1, zaI k 20 fX), (a2, zaI k 20 fY), (a3, zaI k 20 fZ)] sz) := by
  refine Met.ofW (cc := cX6_append) (maxL := 5) (ret := (some .int)) (by decide) rfl ?_
  intro p e s m args below meth c s₁ B hml hv
  obtain ⟨rfl, hsz, hP, hK, hD0, hE⟩ := hv
  have hx := B.exec
  have hb := B.bytes
  have hr := B.returns
  have hts := atoms_spec (ws := wsX6_append) B.pre
  have hown : s.vm.findClass RX6 = some m.cls := findClass_of_methodNamed B.named
  have hlocks := B.notSynchronized
  subst hsz
  have hD := hD0.self (sz := s.heap.size)
  delta zQi zB
  generalize hAe : va_A [(h, .inr (5, [.ref a0, .ref a1, .ref a2, .ref a3, .int (nI n)])), (a0, zaI k 20 fT), (a1, zaI k 20 fX), (a2, zaI k 20 fY), (a3, zaI k 20 fZ)] s.heap.size = A at hD hE ⊢
  have hA : ∀ q : Nat, s.heap.size ≤ q → A q := fun q h => by rw [← hAe]; exact Or.inr h
  have hS : va_S A s.heap s.heap [] := va_S.rf
  have hl := lv_entry [.ref h, .int t, .int x, .int y, .int z] (n := 5) (Nat.le_of_ble_eq_true rfl)
  rw [lg_entry_eq]
  generalize (lg_sl [.ref h, .int t, .int x, .int y, .int z] ++ List.replicate (5 - (lg_sl [.ref h, .int t, .int x, .int y, .int z]).length) Slot.unset).toArray = ls at hl ⊢
  have hl : lv_has ls 5 [(0, .ref h), (1, .int t), (2, .int x), (3, .int y), (4, .int z)] := hl
  have hl24 : (Cond.fieldLink RX6 24 "InertialReference$Script" "count" "I").before #[Value.ref h, Value.int t, Value.int x, Value.int y, Value.int z] s = true := zw hts 1 rfl
  have hinX6 : ∀ w ∈ u_ws RX6 TX6 5, w ∈ wsX6_append := fun w h => List.mem_cons_of_mem _ (List.mem_append_right _ h)
  have hl11 : (Cond.fieldLink RX6 11 "InertialReference$Script" "ticks" "[I").before #[Value.ref h, Value.int t, Value.int x, Value.int y, Value.int z] s = true := zw hts 2 rfl
  have hl15 : (Cond.fieldLink RX6 15 "InertialReference$Script" "x" "[I").before #[Value.ref h, Value.int t, Value.int x, Value.int y, Value.int z] s = true := zw hts 3 rfl
  have hl18 : (Cond.fieldLink RX6 18 "InertialReference$Script" "y" "[I").before #[Value.ref h, Value.int t, Value.int x, Value.int y, Value.int z] s = true := zw hts 4 rfl
  have hl21 : (Cond.fieldLink RX6 21 "InertialReference$Script" "z" "[I").before #[Value.ref h, Value.int t, Value.int x, Value.int y, Value.int z] s = true := zw hts 5 rfl
  refine lv_aload_n hx hb dX6_append_0 rfl (lv_at hl 0 rfl) ?_
  refine va_get (D := D) (ci := 5) (v := .int (nI n)) (C := RX6) (T := TX6) (N := 5) hx hb hts hinX6 hown hK hP 0 rfl rfl 4 (Nat.le_of_ble_eq_true rfl) hl24 (fun _ h9 => h9) rfl dX6_append_1 ?_
  refine lv_bipush (v := 20) hx hb dX6_append_4 (by decide) ?_
  refine lv_icmp_lt (tgt := 12) hx hb dX6_append_6 (by decide) (fun c_1 => ?_) (fun c_1 => ?_)
  · skip
    have c_1 : ((n : Nat) : Int) < 20 := zlt c_1 (nI_toInt (by omega)) (by decide)
    refine lv_aload_n hx hb dX6_append_12 rfl (lv_at hl 0 rfl) ?_
    refine va_get (D := D) (ci := 5) (v := .ref a0) (C := RX6) (T := TX6) (N := 5) hx hb hts hinX6 hown hK hP 0 rfl rfl 0 (Nat.le_of_ble_eq_true rfl) hl11 (fun _ h9 => h9) rfl dX6_append_13 ?_
    refine lv_aload_n hx hb dX6_append_16 rfl (lv_at hl 0 rfl) ?_
    refine va_get (D := D) (ci := 5) (v := .int (nI n)) (C := RX6) (T := TX6) (N := 5) hx hb hts hinX6 hown hK hP 0 rfl rfl 4 (Nat.le_of_ble_eq_true rfl) hl24 (fun _ h9 => h9) rfl dX6_append_17 ?_
    refine lv_iload_n hx hb dX6_append_20 rfl (lv_at hl 1 rfl) ?_
    refine z_iast hx hb hK hP hD hS 1 rfl n (zxn (by omega)) (by omega) (ws' := [(h, .inr (5, [.ref a0, .ref a1, .ref a2, .ref a3, .int (nI n)])), (a0, zaI k 20 (upd fT n t)), (a1, zaI k 20 fX), (a2, zaI k 20 fY), (a3, zaI k 20 fZ)]) rfl dX6_append_21 (fun H locs hP hD hS => ?_)
    refine lv_aload_n hx hb dX6_append_22 rfl (lv_at hl 0 rfl) ?_
    refine va_get (D := D) (ci := 5) (v := .ref a1) (C := RX6) (T := TX6) (N := 5) hx hb hts hinX6 hown hK hP 0 rfl rfl 1 (Nat.le_of_ble_eq_true rfl) hl15 (fun _ h9 => h9) rfl dX6_append_23 ?_
    refine lv_aload_n hx hb dX6_append_26 rfl (lv_at hl 0 rfl) ?_
    refine va_get (D := D) (ci := 5) (v := .int (nI n)) (C := RX6) (T := TX6) (N := 5) hx hb hts hinX6 hown hK hP 0 rfl rfl 4 (Nat.le_of_ble_eq_true rfl) hl24 (fun _ h9 => h9) rfl dX6_append_27 ?_
    refine lv_iload_n hx hb dX6_append_30 rfl (lv_at hl 2 rfl) ?_
    refine z_iast hx hb hK hP hD hS 2 rfl n (zxn (by omega)) (by omega) (ws' := [(h, .inr (5, [.ref a0, .ref a1, .ref a2, .ref a3, .int (nI n)])), (a0, zaI k 20 (upd fT n t)), (a1, zaI k 20 (upd fX n x)), (a2, zaI k 20 fY), (a3, zaI k 20 fZ)]) rfl dX6_append_31 (fun H locs hP hD hS => ?_)
    refine lv_aload_n hx hb dX6_append_32 rfl (lv_at hl 0 rfl) ?_
    refine va_get (D := D) (ci := 5) (v := .ref a2) (C := RX6) (T := TX6) (N := 5) hx hb hts hinX6 hown hK hP 0 rfl rfl 2 (Nat.le_of_ble_eq_true rfl) hl18 (fun _ h9 => h9) rfl dX6_append_33 ?_
    refine lv_aload_n hx hb dX6_append_36 rfl (lv_at hl 0 rfl) ?_
    refine va_get (D := D) (ci := 5) (v := .int (nI n)) (C := RX6) (T := TX6) (N := 5) hx hb hts hinX6 hown hK hP 0 rfl rfl 4 (Nat.le_of_ble_eq_true rfl) hl24 (fun _ h9 => h9) rfl dX6_append_37 ?_
    refine lv_iload_n hx hb dX6_append_40 rfl (lv_at hl 3 rfl) ?_
    refine z_iast hx hb hK hP hD hS 3 rfl n (zxn (by omega)) (by omega) (ws' := [(h, .inr (5, [.ref a0, .ref a1, .ref a2, .ref a3, .int (nI n)])), (a0, zaI k 20 (upd fT n t)), (a1, zaI k 20 (upd fX n x)), (a2, zaI k 20 (upd fY n y)), (a3, zaI k 20 fZ)]) rfl dX6_append_41 (fun H locs hP hD hS => ?_)
    refine lv_aload_n hx hb dX6_append_42 rfl (lv_at hl 0 rfl) ?_
    refine va_get (D := D) (ci := 5) (v := .ref a3) (C := RX6) (T := TX6) (N := 5) hx hb hts hinX6 hown hK hP 0 rfl rfl 3 (Nat.le_of_ble_eq_true rfl) hl21 (fun _ h9 => h9) rfl dX6_append_43 ?_
    refine lv_aload_n hx hb dX6_append_46 rfl (lv_at hl 0 rfl) ?_
    refine va_get (D := D) (ci := 5) (v := .int (nI n)) (C := RX6) (T := TX6) (N := 5) hx hb hts hinX6 hown hK hP 0 rfl rfl 4 (Nat.le_of_ble_eq_true rfl) hl24 (fun _ h9 => h9) rfl dX6_append_47 ?_
    refine lv_iload hx hb dX6_append_50 (lv_at hl 4 rfl) ?_
    refine z_iast hx hb hK hP hD hS 4 rfl n (zxn (by omega)) (by omega) (ws' := [(h, .inr (5, [.ref a0, .ref a1, .ref a2, .ref a3, .int (nI n)])), (a0, zaI k 20 (upd fT n t)), (a1, zaI k 20 (upd fX n x)), (a2, zaI k 20 (upd fY n y)), (a3, zaI k 20 (upd fZ n z))]) rfl dX6_append_52 (fun H locs hP hD hS => ?_)
    refine lv_aload_n hx hb dX6_append_53 rfl (lv_at hl 0 rfl) ?_
    refine lv_dup hx hb dX6_append_54 rfl ?_
    refine va_get (D := D) (ci := 5) (v := .int (nI n)) (C := RX6) (T := TX6) (N := 5) hx hb hts hinX6 hown hK hP 0 rfl rfl 4 (Nat.le_of_ble_eq_true rfl) hl24 (fun _ h9 => h9) rfl dX6_append_55 ?_
    refine lv_iconst (v := 1) hx hb dX6_append_58 (by decide) ?_
    refine lv_iadd hx hb dX6_append_59 ?_
    refine W.eq (g2 := F0 m 60 ls (.int (nI (n + 1)) :: [.ref h])) (by rw [nI_1]) ?_
    refine va_put (D := D) (ci := 5) (v := .int (nI (n + 1))) (ty := .int) (C := RX6) (T := TX6) (N := 5) hx hb hts hinX6 tyX6 tyX6_ok nmX6 hown hK hP hD hS 0 rfl rfl 4 (Nat.le_of_ble_eq_true rfl) hl24 (fun _ h9 => h9) rfl  (by decide +kernel) rfl rfl (Nat.le_of_ble_eq_true rfl) dX6_append_60 (fun H locs hP hD hS => ?_)
    have hP : va_P D vwCl [(h, .inr (5, [.ref a0, .ref a1, .ref a2, .ref a3, .int (nI (n + 1))])), (a0, zaI k 20 (upd fT n t)), (a1, zaI k 20 (upd fX n x)), (a2, zaI k 20 (upd fY n y)), (a3, zaI k 20 (upd fZ n z))] H := hP
    have hD : va_D A [(h, .inr (5, [.ref a0, .ref a1, .ref a2, .ref a3, .int (nI (n + 1))])), (a0, zaI k 20 (upd fT n t)), (a1, zaI k 20 (upd fX n x)), (a2, zaI k 20 (upd fY n y)), (a3, zaI k 20 (upd fZ n z))] := hD
    refine lv_aload_n hx hb dX6_append_63 rfl (lv_at hl 0 rfl) ?_
    refine va_get (D := D) (ci := 5) (v := .int (nI (n + 1))) (C := RX6) (T := TX6) (N := 5) hx hb hts hinX6 hown hK hP 0 rfl rfl 4 (Nat.le_of_ble_eq_true rfl) hl24 (fun _ h9 => h9) rfl dX6_append_64 ?_
    have hP9 := hP.sub (ws' := [(h, .inr (5, [.ref a0, .ref a1, .ref a2, .ref a3, .int (nI (n + 1))])), (a0, zaI k 20 (upd fT n t)), (a1, zaI k 20 (upd fX n x)), (a2, zaI k 20 (upd fY n y)), (a3, zaI k 20 (upd fZ n z))]) [0, 1, 2, 3, 4] rfl
    have hD9 := hD.sub (ws' := [(h, .inr (5, [.ref a0, .ref a1, .ref a2, .ref a3, .int (nI (n + 1))])), (a0, zaI k 20 (upd fT n t)), (a1, zaI k 20 (upd fX n x)), (a2, zaI k 20 (upd fY n y)), (a3, zaI k 20 (upd fZ n z))]) [0, 1, 2, 3, 4] (by decide) rfl
    exact W.iret (v := nI (n + 1)) hx hb hr (fun t9 ht9 hW9 => ⟨⟨(nI (n + 1)), [(h, .inr (5, [.ref a0, .ref a1, .ref a2, .ref a3, .int (nI (n + 1))])), (a0, zaI k 20 (upd fT n t)), (a1, zaI k 20 (upd fX n x)), (a2, zaI k 20 (upd fY n y)), (a3, zaI k 20 (upd fZ n z))], rfl, ⟨rfl, rfl⟩, by rw [ht9]; exact hP9, hD9⟩, hS.F ht9⟩) hS.2.2 dX6_append_67
  · skip
    have c_1 : 20 ≤ ((n : Nat) : Int) := znlt c_1 (nI_toInt (by omega)) (by decide)
    omega
set_option maxHeartbeats 4000000 in
set_option maxRecDepth 100000 in
theorem c_X6_append_no (l : Launch) (D : va_G) (k : Nat → ClassId) (sz : Nat) (h a0 a1 a2 a3 n : Nat) (fT fX fY fZ : Nat → Int32) (t x y z : Int32) (hn : n = 20) : Met l yX6_append wsX6_append ({ frames := 0, cells := 0, slots := 0, locals := 0 } : Room) (va_Pc [.ref h, .int t, .int x, .int y, .int z] (zPre D k [(h, .inr (5, [.ref a0, .ref a1, .ref a2, .ref a3, .int (nI n)])), (a0, zaI k 20 fT), (a1, zaI k 20 fX), (a2, zaI k 20 fY), (a3, zaI k 20 fZ)] sz zX0)) (zQi D [(h, .inr (5, [.ref a0, .ref a1, .ref a2, .ref a3, .int (nI n)])), (a0, zaI k 20 fT), (a1, zaI k 20 fX), (a2, zaI k 20 fY), (a3, zaI k 20 fZ)] sz (-3) (fun w : va_W => w = [(h, .inr (5, [.ref a0, .ref a1, .ref a2, .ref a3, .int (nI n)])), (a0, zaI k 20 fT), (a1, zaI k 20 fX), (a2, zaI k 20 fY), (a3, zaI k 20 fZ)])) 0 0 (va_A [(h, .inr (5, [.ref a0, .ref a1, .ref a2, .ref a3, .int (nI n)])), (a0, zaI k 20 fT), (a1, zaI k 20 fX), (a2, zaI k 20 fY), (a3, zaI k 20 fZ)] sz) := by
  refine Met.ofW (cc := cX6_append) (maxL := 5) (ret := (some .int)) (by decide) rfl ?_
  intro p e s m args below meth c s₁ B hml hv
  obtain ⟨rfl, hsz, hP, hK, hD0, hE⟩ := hv
  have hx := B.exec
  have hb := B.bytes
  have hr := B.returns
  have hts := atoms_spec (ws := wsX6_append) B.pre
  have hown : s.vm.findClass RX6 = some m.cls := findClass_of_methodNamed B.named
  have hlocks := B.notSynchronized
  subst hsz
  have hD := hD0.self (sz := s.heap.size)
  delta zQi zB
  generalize hAe : va_A [(h, .inr (5, [.ref a0, .ref a1, .ref a2, .ref a3, .int (nI n)])), (a0, zaI k 20 fT), (a1, zaI k 20 fX), (a2, zaI k 20 fY), (a3, zaI k 20 fZ)] s.heap.size = A at hD hE ⊢
  have hA : ∀ q : Nat, s.heap.size ≤ q → A q := fun q h => by rw [← hAe]; exact Or.inr h
  have hS : va_S A s.heap s.heap [] := va_S.rf
  have hl := lv_entry [.ref h, .int t, .int x, .int y, .int z] (n := 5) (Nat.le_of_ble_eq_true rfl)
  rw [lg_entry_eq]
  generalize (lg_sl [.ref h, .int t, .int x, .int y, .int z] ++ List.replicate (5 - (lg_sl [.ref h, .int t, .int x, .int y, .int z]).length) Slot.unset).toArray = ls at hl ⊢
  have hl : lv_has ls 5 [(0, .ref h), (1, .int t), (2, .int x), (3, .int y), (4, .int z)] := hl
  have hl24 : (Cond.fieldLink RX6 24 "InertialReference$Script" "count" "I").before #[Value.ref h, Value.int t, Value.int x, Value.int y, Value.int z] s = true := zw hts 1 rfl
  have hinX6 : ∀ w ∈ u_ws RX6 TX6 5, w ∈ wsX6_append := fun w h => List.mem_cons_of_mem _ (List.mem_append_right _ h)
  refine lv_aload_n hx hb dX6_append_0 rfl (lv_at hl 0 rfl) ?_
  refine va_get (D := D) (ci := 5) (v := .int (nI n)) (C := RX6) (T := TX6) (N := 5) hx hb hts hinX6 hown hK hP 0 rfl rfl 4 (Nat.le_of_ble_eq_true rfl) hl24 (fun _ h9 => h9) rfl dX6_append_1 ?_
  refine lv_bipush (v := 20) hx hb dX6_append_4 (by decide) ?_
  refine lv_icmp_lt (tgt := 12) hx hb dX6_append_6 (by decide) (fun c_1 => ?_) (fun c_1 => ?_)
  · skip
    have c_1 : ((n : Nat) : Int) < 20 := zlt c_1 (nI_toInt (by omega)) (by decide)
    omega
  · skip
    have c_1 : 20 ≤ ((n : Nat) : Int) := znlt c_1 (nI_toInt (by omega)) (by decide)
    refine lv_bipush (v := (-3)) hx hb dX6_append_9 (by decide) ?_
    have hP9 := hP.sub (ws' := [(h, .inr (5, [.ref a0, .ref a1, .ref a2, .ref a3, .int (nI n)])), (a0, zaI k 20 fT), (a1, zaI k 20 fX), (a2, zaI k 20 fY), (a3, zaI k 20 fZ)]) [0, 1, 2, 3, 4] rfl
    have hD9 := hD.sub (ws' := [(h, .inr (5, [.ref a0, .ref a1, .ref a2, .ref a3, .int (nI n)])), (a0, zaI k 20 fT), (a1, zaI k 20 fX), (a2, zaI k 20 fY), (a3, zaI k 20 fZ)]) [0, 1, 2, 3, 4] (by decide) rfl
    exact W.iret (v := (-3)) hx hb hr (fun t9 ht9 hW9 => ⟨⟨(-3), [(h, .inr (5, [.ref a0, .ref a1, .ref a2, .ref a3, .int (nI n)])), (a0, zaI k 20 fT), (a1, zaI k 20 fX), (a2, zaI k 20 fY), (a3, zaI k 20 fZ)], rfl, ⟨rfl, rfl⟩, by rw [ht9]; exact hP9, hD9⟩, hS.F ht9⟩) hS.2.2 dX6_append_11
set_option maxHeartbeats 4000000 in
set_option maxRecDepth 100000 in
theorem c_X6_empty (l : Launch) (D : va_G) (k : Nat → ClassId) (sz : Nat) (h a0 a1 a2 a3 : Nat) (q : Int32) : Met l yX6_empty wsX6_empty ({ frames := 0, cells := 0, slots := 0, locals := 0 } : Room) (va_Pc [.ref h] (zPre D k [(h, .inr (5, [.ref a0, .ref a1, .ref a2, .ref a3, .int q]))] sz zX0)) (zQi D [(h, .inr (5, [.ref a0, .ref a1, .ref a2, .ref a3, .int q]))] sz q (fun w : va_W => w = [(h, .inr (5, [.ref a0, .ref a1, .ref a2, .ref a3, .int 0]))])) 0 0 (va_A [(h, .inr (5, [.ref a0, .ref a1, .ref a2, .ref a3, .int q]))] sz) := by
  refine Met.ofW (cc := cX6_empty) (maxL := 2) (ret := (some .int)) (by decide) rfl ?_
  intro p e s m args below meth c s₁ B hml hv
  obtain ⟨rfl, hsz, hP, hK, hD0, hE⟩ := hv
  have hx := B.exec
  have hb := B.bytes
  have hr := B.returns
  have hts := atoms_spec (ws := wsX6_empty) B.pre
  have hown : s.vm.findClass RX6 = some m.cls := findClass_of_methodNamed B.named
  have hlocks := B.notSynchronized
  subst hsz
  have hD := hD0.self (sz := s.heap.size)
  delta zQi zB
  generalize hAe : va_A [(h, .inr (5, [.ref a0, .ref a1, .ref a2, .ref a3, .int q]))] s.heap.size = A at hD hE ⊢
  have hA : ∀ q : Nat, s.heap.size ≤ q → A q := fun q h => by rw [← hAe]; exact Or.inr h
  have hS : va_S A s.heap s.heap [] := va_S.rf
  have hl := lv_entry [.ref h] (n := 2) (Nat.le_of_ble_eq_true rfl)
  rw [lg_entry_eq]
  generalize (lg_sl [.ref h] ++ List.replicate (2 - (lg_sl [.ref h]).length) Slot.unset).toArray = ls at hl ⊢
  have hl : lv_has ls 2 [(0, .ref h)] := hl
  have hl24 : (Cond.fieldLink RX6 24 "InertialReference$Script" "count" "I").before #[Value.ref h] s = true := zw hts 1 rfl
  have hinX6 : ∀ w ∈ u_ws RX6 TX6 5, w ∈ wsX6_empty := fun w h => List.mem_cons_of_mem _ (List.mem_append_right _ h)
  refine lv_aload_n hx hb dX6_empty_0 rfl (lv_at hl 0 rfl) ?_
  refine va_get (D := D) (ci := 5) (v := .int q) (C := RX6) (T := TX6) (N := 5) hx hb hts hinX6 hown hK hP 0 rfl rfl 4 (Nat.le_of_ble_eq_true rfl) hl24 (fun _ h9 => h9) rfl dX6_empty_1 ?_
  refine lv_istore_n (lv' := [(1, .int q), (0, .ref h)]) hx hb dX6_empty_4 rfl hl (by decide) rfl (fun ls hl => ?_)
  refine lv_aload_n hx hb dX6_empty_5 rfl (lv_at hl 1 rfl) ?_
  refine lv_iconst (v := 0) hx hb dX6_empty_6 (by decide) ?_
  refine va_put (D := D) (ci := 5) (v := .int 0) (ty := .int) (C := RX6) (T := TX6) (N := 5) hx hb hts hinX6 tyX6 tyX6_ok nmX6 hown hK hP hD hS 0 rfl rfl 4 (Nat.le_of_ble_eq_true rfl) hl24 (fun _ h9 => h9) rfl  (by decide +kernel) rfl rfl (Nat.le_of_ble_eq_true rfl) dX6_empty_7 (fun H locs hP hD hS => ?_)
  have hP : va_P D vwCl [(h, .inr (5, [.ref a0, .ref a1, .ref a2, .ref a3, .int 0]))] H := hP
  have hD : va_D A [(h, .inr (5, [.ref a0, .ref a1, .ref a2, .ref a3, .int 0]))] := hD
  refine lv_iload_n hx hb dX6_empty_10 rfl (lv_at hl 0 rfl) ?_
  have hP9 := hP.sub (ws' := [(h, .inr (5, [.ref a0, .ref a1, .ref a2, .ref a3, .int 0]))]) [0] rfl
  have hD9 := hD.sub (ws' := [(h, .inr (5, [.ref a0, .ref a1, .ref a2, .ref a3, .int 0]))]) [0] (by decide) rfl
  exact W.iret (v := q) hx hb hr (fun t9 ht9 hW9 => ⟨⟨q, [(h, .inr (5, [.ref a0, .ref a1, .ref a2, .ref a3, .int 0]))], rfl, ⟨rfl, rfl⟩, by rw [ht9]; exact hP9, hD9⟩, hS.F ht9⟩) hS.2.2 dX6_empty_11
set_option maxHeartbeats 4000000 in
set_option maxRecDepth 100000 in
theorem c_X6_ticksLeft (l : Launch) (D : va_G) (k : Nat → ClassId) (sz : Nat) (h a0 a1 a2 a3 n : Nat) (fT fX fY fZ : Nat → Int32) (hn : n ≤ 20) : Met l yX6_ticksLeft wsX6_ticksLeft ({ frames := 0, cells := 0, slots := 0, locals := 0 } : Room) (va_Pc [.ref h] (zPre D k [(h, .inr (5, [.ref a0, .ref a1, .ref a2, .ref a3, .int (nI n)])), (a0, zaI k 20 fT), (a1, zaI k 20 fX), (a2, zaI k 20 fY), (a3, zaI k 20 fZ)] sz zX0)) (zQi D [(h, .inr (5, [.ref a0, .ref a1, .ref a2, .ref a3, .int (nI n)])), (a0, zaI k 20 fT), (a1, zaI k 20 fX), (a2, zaI k 20 fY), (a3, zaI k 20 fZ)] sz (sumI fT n) (fun w : va_W => w = [(h, .inr (5, [.ref a0, .ref a1, .ref a2, .ref a3, .int (nI n)])), (a0, zaI k 20 fT), (a1, zaI k 20 fX), (a2, zaI k 20 fY), (a3, zaI k 20 fZ)])) 0 0 (va_A [(h, .inr (5, [.ref a0, .ref a1, .ref a2, .ref a3, .int (nI n)])), (a0, zaI k 20 fT), (a1, zaI k 20 fX), (a2, zaI k 20 fY), (a3, zaI k 20 fZ)] sz) := by
  refine Met.ofW (cc := cX6_ticksLeft) (maxL := 3) (ret := (some .int)) (by decide) rfl ?_
  intro p e s m args below meth c s₁ B hml hv
  obtain ⟨rfl, hsz, hP, hK, hD0, hE⟩ := hv
  have hx := B.exec
  have hb := B.bytes
  have hr := B.returns
  have hts := atoms_spec (ws := wsX6_ticksLeft) B.pre
  have hown : s.vm.findClass RX6 = some m.cls := findClass_of_methodNamed B.named
  have hlocks := B.notSynchronized
  subst hsz
  have hD := hD0.self (sz := s.heap.size)
  delta zQi zB
  generalize hAe : va_A [(h, .inr (5, [.ref a0, .ref a1, .ref a2, .ref a3, .int (nI n)])), (a0, zaI k 20 fT), (a1, zaI k 20 fX), (a2, zaI k 20 fY), (a3, zaI k 20 fZ)] s.heap.size = A at hD hE ⊢
  have hA : ∀ q : Nat, s.heap.size ≤ q → A q := fun q h => by rw [← hAe]; exact Or.inr h
  have hS : va_S A s.heap s.heap [] := va_S.rf
  have hl := lv_entry [.ref h] (n := 3) (Nat.le_of_ble_eq_true rfl)
  rw [lg_entry_eq]
  generalize (lg_sl [.ref h] ++ List.replicate (3 - (lg_sl [.ref h]).length) Slot.unset).toArray = ls at hl ⊢
  have hl : lv_has ls 3 [(0, .ref h)] := hl
  have hl24 : (Cond.fieldLink RX6 24 "InertialReference$Script" "count" "I").before #[Value.ref h] s = true := zw hts 1 rfl
  have hinX6 : ∀ w ∈ u_ws RX6 TX6 5, w ∈ wsX6_ticksLeft := fun w h => List.mem_cons_of_mem _ (List.mem_append_right _ h)
  have hl11 : (Cond.fieldLink RX6 11 "InertialReference$Script" "ticks" "[I").before #[Value.ref h] s = true := zw hts 2 rfl
  refine lv_iconst (v := 0) hx hb dX6_ticksLeft_0 (by decide) ?_
  refine lv_istore_n (lv' := [(1, .int 0), (0, .ref h)]) hx hb dX6_ticksLeft_1 rfl hl (by decide) rfl (fun ls hl => ?_)
  refine lv_iconst (v := 0) hx hb dX6_ticksLeft_2 (by decide) ?_
  refine lv_istore_n (lv' := [(2, .int 0), (1, .int 0), (0, .ref h)]) hx hb dX6_ticksLeft_3 rfl hl (by decide) rfl (fun ls hl => ?_)
  have hl : lv_has ls 3 [(2, .int 0), (1, .int (sumI fT 0)), (0, .ref h)] := hl
  have hl : lv_has ls 3 [(2, .int (nI 0)), (1, .int (sumI fT 0)), (0, .ref h)] := hl
  refine z_loop (St := Nat) (fun st9 => st9 ≤ n) (fun st9 => [(h, .inr (5, [.ref a0, .ref a1, .ref a2, .ref a3, .int (nI n)])), (a0, zaI k 20 fT), (a1, zaI k 20 fX), (a2, zaI k 20 fY), (a3, zaI k 20 fZ)]) (fun st9 => [(0, .ref h), (1, .int (sumI fT st9)), (2, .int (nI st9))]) (fun st9 => n - st9) 0 (Nat.zero_le n) hP hD hS (lv_sub hl [2, 1, 0] rfl) ?_
  intro j hj_4 H locs ls hP hD hS hl ih_4
  have hj_4 : j ≤ n := hj_4
  have hP : va_P D vwCl [(h, .inr (5, [.ref a0, .ref a1, .ref a2, .ref a3, .int (nI n)])), (a0, zaI k 20 fT), (a1, zaI k 20 fX), (a2, zaI k 20 fY), (a3, zaI k 20 fZ)] H := hP
  have hD : va_D A [(h, .inr (5, [.ref a0, .ref a1, .ref a2, .ref a3, .int (nI n)])), (a0, zaI k 20 fT), (a1, zaI k 20 fX), (a2, zaI k 20 fY), (a3, zaI k 20 fZ)] := hD
  have hl : lv_has ls 3 [(0, .ref h), (1, .int (sumI fT j)), (2, .int (nI j))] := hl
  refine lv_iload_n hx hb dX6_ticksLeft_4 rfl (lv_at hl 2 rfl) ?_
  refine lv_aload_n hx hb dX6_ticksLeft_5 rfl (lv_at hl 0 rfl) ?_
  refine va_get (D := D) (ci := 5) (v := .int (nI n)) (C := RX6) (T := TX6) (N := 5) hx hb hts hinX6 hown hK hP 0 rfl rfl 4 (Nat.le_of_ble_eq_true rfl) hl24 (fun _ h9 => h9) rfl dX6_ticksLeft_6 ?_
  refine lv_icmp_ge (tgt := 27) hx hb dX6_ticksLeft_9 (by decide) (fun c_1 => ?_) (fun c_1 => ?_)
  · skip
    have c_1 : ((n : Nat) : Int) ≤ ((j : Nat) : Int) := zle c_1 (nI_toInt (by omega)) (nI_toInt (by omega))
    refine lv_iload_n hx hb dX6_ticksLeft_27 rfl (lv_at hl 1 rfl) ?_
    have hP9 := hP.sub (ws' := [(h, .inr (5, [.ref a0, .ref a1, .ref a2, .ref a3, .int (nI n)])), (a0, zaI k 20 fT), (a1, zaI k 20 fX), (a2, zaI k 20 fY), (a3, zaI k 20 fZ)]) [0, 1, 2, 3, 4] rfl
    have hD9 := hD.sub (ws' := [(h, .inr (5, [.ref a0, .ref a1, .ref a2, .ref a3, .int (nI n)])), (a0, zaI k 20 fT), (a1, zaI k 20 fX), (a2, zaI k 20 fY), (a3, zaI k 20 fZ)]) [0, 1, 2, 3, 4] (by decide) rfl
    exact W.iret (v := sumI fT j) hx hb hr (fun t9 ht9 hW9 => ⟨⟨(sumI fT j), [(h, .inr (5, [.ref a0, .ref a1, .ref a2, .ref a3, .int (nI n)])), (a0, zaI k 20 fT), (a1, zaI k 20 fX), (a2, zaI k 20 fY), (a3, zaI k 20 fZ)], rfl, ⟨by (rw [show j = n by omega]), rfl⟩, by rw [ht9]; exact hP9, hD9⟩, hS.F ht9⟩) hS.2.2 dX6_ticksLeft_28
  · skip
    have c_1 : ((j : Nat) : Int) < ((n : Nat) : Int) := znle c_1 (nI_toInt (by omega)) (nI_toInt (by omega))
    refine lv_iload_n hx hb dX6_ticksLeft_12 rfl (lv_at hl 1 rfl) ?_
    refine lv_aload_n hx hb dX6_ticksLeft_13 rfl (lv_at hl 0 rfl) ?_
    refine va_get (D := D) (ci := 5) (v := .ref a0) (C := RX6) (T := TX6) (N := 5) hx hb hts hinX6 hown hK hP 0 rfl rfl 0 (Nat.le_of_ble_eq_true rfl) hl11 (fun _ h9 => h9) rfl dX6_ticksLeft_14 ?_
    refine lv_iload_n hx hb dX6_ticksLeft_17 rfl (lv_at hl 2 rfl) ?_
    refine z_iald hx hb hK hP 1 rfl j (zxn (by omega)) (by omega) (v := fT j) rfl dX6_ticksLeft_18 ?_
    refine lv_iadd hx hb dX6_ticksLeft_19 ?_
    refine lv_istore_n (lv' := [(1, .int ((sumI fT j) + (fT j))), (0, .ref h), (2, .int (nI j))]) hx hb dX6_ticksLeft_20 rfl hl (by decide) rfl (fun ls hl => ?_)
    refine lv_iinc (v := nI (j + 1)) (lv' := [(2, .int (nI (j + 1))), (1, .int ((sumI fT j) + (fT j))), (0, .ref h)]) hx hb dX6_ticksLeft_21 hl (k := 2) rfl (nI_1 _) (by decide) rfl (fun ls hl => ?_)
    refine lv_goto (tgt := 4) hx hb dX6_ticksLeft_24 (by decide) ?_
    have hl : lv_has ls 3 [(2, .int (nI (j + 1))), (1, .int (sumI fT (j + 1))), (0, .ref h)] := hl
    exact ih_4 (j + 1) (by omega) (by omega) _ _ _ hP hD hS (lv_sub hl [2, 1, 0] rfl)
set_option maxHeartbeats 4000000 in
set_option maxRecDepth 100000 in
theorem c_X6_removeFirst (l : Launch) (D : va_G) (k : Nat → ClassId) (sz : Nat) (h a0 a1 a2 a3 n : Nat) (fT fX fY fZ : Nat → Int32) (hn : 1 ≤ n) (hn2 : n ≤ 20) : Met l yX6_removeFirst wsX6_removeFirst ({ frames := 1, cells := 0, slots := 0, locals := 18 } : Room) (va_Pc [.ref h] (zPre D k [(h, .inr (5, [.ref a0, .ref a1, .ref a2, .ref a3, .int (nI n)])), (a0, zaI k 20 fT), (a1, zaI k 20 fX), (a2, zaI k 20 fY), (a3, zaI k 20 fZ)] sz zX0)) (zQv D [(h, .inr (5, [.ref a0, .ref a1, .ref a2, .ref a3, .int (nI n)])), (a0, zaI k 20 fT), (a1, zaI k 20 fX), (a2, zaI k 20 fY), (a3, zaI k 20 fZ)] sz (fun w : va_W => w = [(h, .inr (5, [.ref a0, .ref a1, .ref a2, .ref a3, .int (nI (n - 1))])), (a0, zaI k 20 (shf fT n)), (a1, zaI k 20 (shf fX n)), (a2, zaI k 20 (shf fY n)), (a3, zaI k 20 (shf fZ n))])) 0 0 (va_A [(h, .inr (5, [.ref a0, .ref a1, .ref a2, .ref a3, .int (nI n)])), (a0, zaI k 20 fT), (a1, zaI k 20 fX), (a2, zaI k 20 fY), (a3, zaI k 20 fZ)] sz) := by
  refine Met.ofW (cc := cX6_removeFirst) (maxL := 1) (ret := none) (by decide) rfl ?_
  intro p e s m args below meth c s₁ B hml hv
  obtain ⟨rfl, hsz, hP, hK, hD0, hE⟩ := hv
  have hx := B.exec
  have hb := B.bytes
  have hr := B.returns
  have hts := atoms_spec (ws := wsX6_removeFirst) B.pre
  have hown : s.vm.findClass RX6 = some m.cls := findClass_of_methodNamed B.named
  have hlocks := B.notSynchronized
  subst hsz
  have hD := hD0.self (sz := s.heap.size)
  delta zQv zB
  generalize hAe : va_A [(h, .inr (5, [.ref a0, .ref a1, .ref a2, .ref a3, .int (nI n)])), (a0, zaI k 20 fT), (a1, zaI k 20 fX), (a2, zaI k 20 fY), (a3, zaI k 20 fZ)] s.heap.size = A at hD hE ⊢
  have hA : ∀ q : Nat, s.heap.size ≤ q → A q := fun q h => by rw [← hAe]; exact Or.inr h
  have hS : va_S A s.heap s.heap [] := va_S.rf
  have hl := lv_entry [.ref h] (n := 1) (Nat.le_of_ble_eq_true rfl)
  rw [lg_entry_eq]
  generalize (lg_sl [.ref h] ++ List.replicate (1 - (lg_sl [.ref h]).length) Slot.unset).toArray = ls at hl ⊢
  have hl : lv_has ls 1 [(0, .ref h)] := hl
  have hl24 : (Cond.fieldLink RX6 24 "InertialReference$Script" "count" "I").before #[Value.ref h] s = true := zw hts 1 rfl
  have hinX6 : ∀ w ∈ u_ws RX6 TX6 5, w ∈ wsX6_removeFirst := fun w h => List.mem_cons_of_mem _ (List.mem_append_right _ h)
  have hl11 : (Cond.fieldLink RX6 11 "InertialReference$Script" "ticks" "[I").before #[Value.ref h] s = true := zw hts 2 rfl
  have hl15 : (Cond.fieldLink RX6 15 "InertialReference$Script" "x" "[I").before #[Value.ref h] s = true := zw hts 7 rfl
  have hl18 : (Cond.fieldLink RX6 18 "InertialReference$Script" "y" "[I").before #[Value.ref h] s = true := zw hts 8 rfl
  have hl21 : (Cond.fieldLink RX6 21 "InertialReference$Script" "z" "[I").before #[Value.ref h] s = true := zw hts 9 rfl
  refine lv_aload_n hx hb dX6_removeFirst_0 rfl (lv_at hl 0 rfl) ?_
  refine lv_dup hx hb dX6_removeFirst_1 rfl ?_
  refine va_get (D := D) (ci := 5) (v := .int (nI n)) (C := RX6) (T := TX6) (N := 5) hx hb hts hinX6 hown hK hP 0 rfl rfl 4 (Nat.le_of_ble_eq_true rfl) hl24 (fun _ h9 => h9) rfl dX6_removeFirst_2 ?_
  refine lv_iconst (v := 1) hx hb dX6_removeFirst_5 (by decide) ?_
  refine lv_isub hx hb dX6_removeFirst_6 ?_
  refine W.eq (g2 := F0 m 7 ls (.int (nI (n - 1)) :: [.ref h])) (by rw [znI_sub1 (by omega)]) ?_
  refine va_put (D := D) (ci := 5) (v := .int (nI (n - 1))) (ty := .int) (C := RX6) (T := TX6) (N := 5) hx hb hts hinX6 tyX6 tyX6_ok nmX6 hown hK hP hD hS 0 rfl rfl 4 (Nat.le_of_ble_eq_true rfl) hl24 (fun _ h9 => h9) rfl  (by decide +kernel) rfl rfl (Nat.le_of_ble_eq_true rfl) dX6_removeFirst_7 (fun H locs hP hD hS => ?_)
  have hP : va_P D vwCl [(h, .inr (5, [.ref a0, .ref a1, .ref a2, .ref a3, .int (nI (n - 1))])), (a0, zaI k 20 fT), (a1, zaI k 20 fX), (a2, zaI k 20 fY), (a3, zaI k 20 fZ)] H := hP
  have hD : va_D A [(h, .inr (5, [.ref a0, .ref a1, .ref a2, .ref a3, .int (nI (n - 1))])), (a0, zaI k 20 fT), (a1, zaI k 20 fX), (a2, zaI k 20 fY), (a3, zaI k 20 fZ)] := hD
  refine lv_aload_n hx hb dX6_removeFirst_10 rfl (lv_at hl 0 rfl) ?_
  refine va_get (D := D) (ci := 5) (v := .ref a0) (C := RX6) (T := TX6) (N := 5) hx hb hts hinX6 hown hK hP 0 rfl rfl 0 (Nat.le_of_ble_eq_true rfl) hl11 (fun _ h9 => h9) rfl dX6_removeFirst_11 ?_
  refine lv_iconst (v := 1) hx hb dX6_removeFirst_14 (by decide) ?_
  refine lv_aload_n hx hb dX6_removeFirst_15 rfl (lv_at hl 0 rfl) ?_
  refine va_get (D := D) (ci := 5) (v := .ref a0) (C := RX6) (T := TX6) (N := 5) hx hb hts hinX6 hown hK hP 0 rfl rfl 0 (Nat.le_of_ble_eq_true rfl) hl11 (fun _ h9 => h9) rfl dX6_removeFirst_16 ?_
  refine lv_iconst (v := 0) hx hb dX6_removeFirst_19 (by decide) ?_
  refine lv_aload_n hx hb dX6_removeFirst_20 rfl (lv_at hl 0 rfl) ?_
  refine va_get (D := D) (ci := 5) (v := .int (nI (n - 1))) (C := RX6) (T := TX6) (N := 5) hx hb hts hinX6 hown hK hP 0 rfl rfl 4 (Nat.le_of_ble_eq_true rfl) hl24 (fun _ h9 => h9) rfl dX6_removeFirst_21 ?_
  refine z_copyi hx hb (hml.trans hl.1.symm) hown (zw hts 3 rfl) (zw hts 4 rfl) (zw hts 5 rfl) (zw hts 6 rfl) hK hP hD hS 1 1 rfl rfl 1 0 (n - 1) zx1 zx0 (zxn (by omega)) (by omega) (by omega) (ws' := [(h, .inr (5, [.ref a0, .ref a1, .ref a2, .ref a3, .int (nI (n - 1))])), (a0, zaI k 20 (va_cpy fT fT 1 0 (n - 1))), (a1, zaI k 20 fX), (a2, zaI k 20 fY), (a3, zaI k 20 fZ)]) rfl (Nat.le_of_ble_eq_true rfl) (Nat.le_of_ble_eq_true rfl) dX6_removeFirst_24 (fun H locs hP hD hS => ?_)
  have hP := z_congI hP 1 rfl (g := shf fT n) (fun i _ => shf_cpy fT n i) (ws' := [(h, .inr (5, [.ref a0, .ref a1, .ref a2, .ref a3, .int (nI (n - 1))])), (a0, zaI k 20 (shf fT n)), (a1, zaI k 20 fX), (a2, zaI k 20 fY), (a3, zaI k 20 fZ)]) rfl
  have hD := z_congDI hD 1 rfl (g := shf fT n) (ws' := [(h, .inr (5, [.ref a0, .ref a1, .ref a2, .ref a3, .int (nI (n - 1))])), (a0, zaI k 20 (shf fT n)), (a1, zaI k 20 fX), (a2, zaI k 20 fY), (a3, zaI k 20 fZ)]) rfl
  refine lv_aload_n hx hb dX6_removeFirst_27 rfl (lv_at hl 0 rfl) ?_
  refine va_get (D := D) (ci := 5) (v := .ref a1) (C := RX6) (T := TX6) (N := 5) hx hb hts hinX6 hown hK hP 0 rfl rfl 1 (Nat.le_of_ble_eq_true rfl) hl15 (fun _ h9 => h9) rfl dX6_removeFirst_28 ?_
  refine lv_iconst (v := 1) hx hb dX6_removeFirst_31 (by decide) ?_
  refine lv_aload_n hx hb dX6_removeFirst_32 rfl (lv_at hl 0 rfl) ?_
  refine va_get (D := D) (ci := 5) (v := .ref a1) (C := RX6) (T := TX6) (N := 5) hx hb hts hinX6 hown hK hP 0 rfl rfl 1 (Nat.le_of_ble_eq_true rfl) hl15 (fun _ h9 => h9) rfl dX6_removeFirst_33 ?_
  refine lv_iconst (v := 0) hx hb dX6_removeFirst_36 (by decide) ?_
  refine lv_aload_n hx hb dX6_removeFirst_37 rfl (lv_at hl 0 rfl) ?_
  refine va_get (D := D) (ci := 5) (v := .int (nI (n - 1))) (C := RX6) (T := TX6) (N := 5) hx hb hts hinX6 hown hK hP 0 rfl rfl 4 (Nat.le_of_ble_eq_true rfl) hl24 (fun _ h9 => h9) rfl dX6_removeFirst_38 ?_
  refine z_copyi hx hb (hml.trans hl.1.symm) hown (zw hts 3 rfl) (zw hts 4 rfl) (zw hts 5 rfl) (zw hts 6 rfl) hK hP hD hS 2 2 rfl rfl 1 0 (n - 1) zx1 zx0 (zxn (by omega)) (by omega) (by omega) (ws' := [(h, .inr (5, [.ref a0, .ref a1, .ref a2, .ref a3, .int (nI (n - 1))])), (a0, zaI k 20 (shf fT n)), (a1, zaI k 20 (va_cpy fX fX 1 0 (n - 1))), (a2, zaI k 20 fY), (a3, zaI k 20 fZ)]) rfl (Nat.le_of_ble_eq_true rfl) (Nat.le_of_ble_eq_true rfl) dX6_removeFirst_41 (fun H locs hP hD hS => ?_)
  have hP := z_congI hP 2 rfl (g := shf fX n) (fun i _ => shf_cpy fX n i) (ws' := [(h, .inr (5, [.ref a0, .ref a1, .ref a2, .ref a3, .int (nI (n - 1))])), (a0, zaI k 20 (shf fT n)), (a1, zaI k 20 (shf fX n)), (a2, zaI k 20 fY), (a3, zaI k 20 fZ)]) rfl
  have hD := z_congDI hD 2 rfl (g := shf fX n) (ws' := [(h, .inr (5, [.ref a0, .ref a1, .ref a2, .ref a3, .int (nI (n - 1))])), (a0, zaI k 20 (shf fT n)), (a1, zaI k 20 (shf fX n)), (a2, zaI k 20 fY), (a3, zaI k 20 fZ)]) rfl
  refine lv_aload_n hx hb dX6_removeFirst_44 rfl (lv_at hl 0 rfl) ?_
  refine va_get (D := D) (ci := 5) (v := .ref a2) (C := RX6) (T := TX6) (N := 5) hx hb hts hinX6 hown hK hP 0 rfl rfl 2 (Nat.le_of_ble_eq_true rfl) hl18 (fun _ h9 => h9) rfl dX6_removeFirst_45 ?_
  refine lv_iconst (v := 1) hx hb dX6_removeFirst_48 (by decide) ?_
  refine lv_aload_n hx hb dX6_removeFirst_49 rfl (lv_at hl 0 rfl) ?_
  refine va_get (D := D) (ci := 5) (v := .ref a2) (C := RX6) (T := TX6) (N := 5) hx hb hts hinX6 hown hK hP 0 rfl rfl 2 (Nat.le_of_ble_eq_true rfl) hl18 (fun _ h9 => h9) rfl dX6_removeFirst_50 ?_
  refine lv_iconst (v := 0) hx hb dX6_removeFirst_53 (by decide) ?_
  refine lv_aload_n hx hb dX6_removeFirst_54 rfl (lv_at hl 0 rfl) ?_
  refine va_get (D := D) (ci := 5) (v := .int (nI (n - 1))) (C := RX6) (T := TX6) (N := 5) hx hb hts hinX6 hown hK hP 0 rfl rfl 4 (Nat.le_of_ble_eq_true rfl) hl24 (fun _ h9 => h9) rfl dX6_removeFirst_55 ?_
  refine z_copyi hx hb (hml.trans hl.1.symm) hown (zw hts 3 rfl) (zw hts 4 rfl) (zw hts 5 rfl) (zw hts 6 rfl) hK hP hD hS 3 3 rfl rfl 1 0 (n - 1) zx1 zx0 (zxn (by omega)) (by omega) (by omega) (ws' := [(h, .inr (5, [.ref a0, .ref a1, .ref a2, .ref a3, .int (nI (n - 1))])), (a0, zaI k 20 (shf fT n)), (a1, zaI k 20 (shf fX n)), (a2, zaI k 20 (va_cpy fY fY 1 0 (n - 1))), (a3, zaI k 20 fZ)]) rfl (Nat.le_of_ble_eq_true rfl) (Nat.le_of_ble_eq_true rfl) dX6_removeFirst_58 (fun H locs hP hD hS => ?_)
  have hP := z_congI hP 3 rfl (g := shf fY n) (fun i _ => shf_cpy fY n i) (ws' := [(h, .inr (5, [.ref a0, .ref a1, .ref a2, .ref a3, .int (nI (n - 1))])), (a0, zaI k 20 (shf fT n)), (a1, zaI k 20 (shf fX n)), (a2, zaI k 20 (shf fY n)), (a3, zaI k 20 fZ)]) rfl
  have hD := z_congDI hD 3 rfl (g := shf fY n) (ws' := [(h, .inr (5, [.ref a0, .ref a1, .ref a2, .ref a3, .int (nI (n - 1))])), (a0, zaI k 20 (shf fT n)), (a1, zaI k 20 (shf fX n)), (a2, zaI k 20 (shf fY n)), (a3, zaI k 20 fZ)]) rfl
  refine lv_aload_n hx hb dX6_removeFirst_61 rfl (lv_at hl 0 rfl) ?_
  refine va_get (D := D) (ci := 5) (v := .ref a3) (C := RX6) (T := TX6) (N := 5) hx hb hts hinX6 hown hK hP 0 rfl rfl 3 (Nat.le_of_ble_eq_true rfl) hl21 (fun _ h9 => h9) rfl dX6_removeFirst_62 ?_
  refine lv_iconst (v := 1) hx hb dX6_removeFirst_65 (by decide) ?_
  refine lv_aload_n hx hb dX6_removeFirst_66 rfl (lv_at hl 0 rfl) ?_
  refine va_get (D := D) (ci := 5) (v := .ref a3) (C := RX6) (T := TX6) (N := 5) hx hb hts hinX6 hown hK hP 0 rfl rfl 3 (Nat.le_of_ble_eq_true rfl) hl21 (fun _ h9 => h9) rfl dX6_removeFirst_67 ?_
  refine lv_iconst (v := 0) hx hb dX6_removeFirst_70 (by decide) ?_
  refine lv_aload_n hx hb dX6_removeFirst_71 rfl (lv_at hl 0 rfl) ?_
  refine va_get (D := D) (ci := 5) (v := .int (nI (n - 1))) (C := RX6) (T := TX6) (N := 5) hx hb hts hinX6 hown hK hP 0 rfl rfl 4 (Nat.le_of_ble_eq_true rfl) hl24 (fun _ h9 => h9) rfl dX6_removeFirst_72 ?_
  refine z_copyi hx hb (hml.trans hl.1.symm) hown (zw hts 3 rfl) (zw hts 4 rfl) (zw hts 5 rfl) (zw hts 6 rfl) hK hP hD hS 4 4 rfl rfl 1 0 (n - 1) zx1 zx0 (zxn (by omega)) (by omega) (by omega) (ws' := [(h, .inr (5, [.ref a0, .ref a1, .ref a2, .ref a3, .int (nI (n - 1))])), (a0, zaI k 20 (shf fT n)), (a1, zaI k 20 (shf fX n)), (a2, zaI k 20 (shf fY n)), (a3, zaI k 20 (va_cpy fZ fZ 1 0 (n - 1)))]) rfl (Nat.le_of_ble_eq_true rfl) (Nat.le_of_ble_eq_true rfl) dX6_removeFirst_75 (fun H locs hP hD hS => ?_)
  have hP := z_congI hP 4 rfl (g := shf fZ n) (fun i _ => shf_cpy fZ n i) (ws' := [(h, .inr (5, [.ref a0, .ref a1, .ref a2, .ref a3, .int (nI (n - 1))])), (a0, zaI k 20 (shf fT n)), (a1, zaI k 20 (shf fX n)), (a2, zaI k 20 (shf fY n)), (a3, zaI k 20 (shf fZ n))]) rfl
  have hD := z_congDI hD 4 rfl (g := shf fZ n) (ws' := [(h, .inr (5, [.ref a0, .ref a1, .ref a2, .ref a3, .int (nI (n - 1))])), (a0, zaI k 20 (shf fT n)), (a1, zaI k 20 (shf fX n)), (a2, zaI k 20 (shf fY n)), (a3, zaI k 20 (shf fZ n))]) rfl
  have hP9 := hP.sub (ws' := [(h, .inr (5, [.ref a0, .ref a1, .ref a2, .ref a3, .int (nI (n - 1))])), (a0, zaI k 20 (shf fT n)), (a1, zaI k 20 (shf fX n)), (a2, zaI k 20 (shf fY n)), (a3, zaI k 20 (shf fZ n))]) [0, 1, 2, 3, 4] rfl
  have hD9 := hD.sub (ws' := [(h, .inr (5, [.ref a0, .ref a1, .ref a2, .ref a3, .int (nI (n - 1))])), (a0, zaI k 20 (shf fT n)), (a1, zaI k 20 (shf fX n)), (a2, zaI k 20 (shf fY n)), (a3, zaI k 20 (shf fZ n))]) [0, 1, 2, 3, 4] (by decide) rfl
  exact W.vret hx hb hr (fun t9 ht9 hW9 => ⟨⟨[(h, .inr (5, [.ref a0, .ref a1, .ref a2, .ref a3, .int (nI (n - 1))])), (a0, zaI k 20 (shf fT n)), (a1, zaI k 20 (shf fX n)), (a2, zaI k 20 (shf fY n)), (a3, zaI k 20 (shf fZ n))], rfl, rfl, by rw [ht9]; exact hP9, hD9⟩, hS.F ht9⟩) hS.2.2 dX6_removeFirst_78
set_option maxHeartbeats 4000000 in
set_option maxRecDepth 100000 in
theorem c_X6_takeTick_0 (l : Launch) (D : va_G) (k : Nat → ClassId) (sz : Nat) (h a0 a1 a2 a3 n hr2 : Nat) (fT fX fY fZ : Nat → Int32) (fr : Nat → Int64) (hn : n = 0) : Met l yX6_takeTick wsX6_takeTick ({ frames := 2, cells := 0, slots := 0, locals := 38 } : Room) (va_Pc [.ref h, .ref hr2] (zPre D k [(h, .inr (5, [.ref a0, .ref a1, .ref a2, .ref a3, .int (nI n)])), (a0, zaI k 20 fT), (a1, zaI k 20 fX), (a2, zaI k 20 fY), (a3, zaI k 20 fZ), (hr2, zaJ k 3 fr)] sz zX0)) (zQv D [(h, .inr (5, [.ref a0, .ref a1, .ref a2, .ref a3, .int (nI n)])), (a0, zaI k 20 fT), (a1, zaI k 20 fX), (a2, zaI k 20 fY), (a3, zaI k 20 fZ), (hr2, zaJ k 3 fr)] sz (fun w : va_W => w = [(h, .inr (5, [.ref a0, .ref a1, .ref a2, .ref a3, .int (nI n)])), (a0, zaI k 20 fT), (a1, zaI k 20 fX), (a2, zaI k 20 fY), (a3, zaI k 20 fZ), (hr2, zaJ k 3 (v3 0 0 0))])) 0 0 (va_A [(h, .inr (5, [.ref a0, .ref a1, .ref a2, .ref a3, .int (nI n)])), (a0, zaI k 20 fT), (a1, zaI k 20 fX), (a2, zaI k 20 fY), (a3, zaI k 20 fZ), (hr2, zaJ k 3 fr)] sz) := by
  refine Met.ofW (cc := cX6_takeTick) (maxL := 2) (ret := none) (by decide) rfl ?_
  intro p e s m args below meth c s₁ B hml hv
  obtain ⟨rfl, hsz, hP, hK, hD0, hE⟩ := hv
  have hx := B.exec
  have hb := B.bytes
  have hr := B.returns
  have hts := atoms_spec (ws := wsX6_takeTick) B.pre
  have hown : s.vm.findClass RX6 = some m.cls := findClass_of_methodNamed B.named
  have hlocks := B.notSynchronized
  subst hsz
  have hD := hD0.self (sz := s.heap.size)
  delta zQv zB
  generalize hAe : va_A [(h, .inr (5, [.ref a0, .ref a1, .ref a2, .ref a3, .int (nI n)])), (a0, zaI k 20 fT), (a1, zaI k 20 fX), (a2, zaI k 20 fY), (a3, zaI k 20 fZ), (hr2, zaJ k 3 fr)] s.heap.size = A at hD hE ⊢
  have hA : ∀ q : Nat, s.heap.size ≤ q → A q := fun q h => by rw [← hAe]; exact Or.inr h
  have hS : va_S A s.heap s.heap [] := va_S.rf
  have hl := lv_entry [.ref h, .ref hr2] (n := 2) (Nat.le_of_ble_eq_true rfl)
  rw [lg_entry_eq]
  generalize (lg_sl [.ref h, .ref hr2] ++ List.replicate (2 - (lg_sl [.ref h, .ref hr2]).length) Slot.unset).toArray = ls at hl ⊢
  have hl : lv_has ls 2 [(0, .ref h), (1, .ref hr2)] := hl
  have hl24 : (Cond.fieldLink RX6 24 "InertialReference$Script" "count" "I").before #[Value.ref h, Value.ref hr2] s = true := zw hts 1 rfl
  have hinX6 : ∀ w ∈ u_ws RX6 TX6 5, w ∈ wsX6_takeTick := fun w h => List.mem_cons_of_mem _ (List.mem_append_right _ h)
  refine lv_aload_n hx hb dX6_takeTick_0 rfl (lv_at hl 0 rfl) ?_
  refine va_get (D := D) (ci := 5) (v := .int (nI n)) (C := RX6) (T := TX6) (N := 5) hx hb hts hinX6 hown hK hP 0 rfl rfl 4 (Nat.le_of_ble_eq_true rfl) hl24 (fun _ h9 => h9) rfl dX6_takeTick_1 ?_
  refine lv_if_ne (tgt := 13) hx hb dX6_takeTick_4 (by decide) (fun c => absurd c (by rw [hn]; decide)) (fun c => ?_)
  refine lv_aload_n hx hb dX6_takeTick_7 rfl (lv_at hl 1 rfl) ?_
  refine lv_lconst (v := 0) hx hb dX6_takeTick_8 (by decide) ?_
  refine z_callv0 (wc := [(hr2, zaJ k 3 fr)]) (wr := [(h, .inr (5, [.ref a0, .ref a1, .ref a2, .ref a3, .int (nI n)])), (a0, zaI k 20 fT), (a1, zaI k 20 fX), (a2, zaI k 20 fY), (a3, zaI k 20 fZ)]) (va_runS (As := [.ref hr2, .long 0]) (rest := []) ⟨hx, hb, hml, hown, hts⟩ (c_J7_fill_d0a16 l D k s.heap.size hr2 3 fr 0 (by decide)) (va_cwS 2 hts gX6_takeTick_J7_fill_d0a16 rfl rfl rfl (by decide +kernel) ⟨Nat.le_of_ble_eq_true rfl, Nat.le_of_ble_eq_true rfl⟩) (z_preS (wc := [(hr2, zaJ k 3 fr)]) hP hD hK [5] rfl rfl zb0 zp0) rfl rfl hl.1 rfl (lv_room (Nat.le_of_ble_eq_true rfl)) dX6_takeTick_9 ⟨Nat.zero_le _, Nat.zero_le _⟩) hP hD hS hA [5] [0, 1, 2, 3, 4] rfl rfl rfl (by decide) (fun w H locs hF hP hD hS => ?_)
  subst hF
  have hP : va_P D vwCl [(h, .inr (5, [.ref a0, .ref a1, .ref a2, .ref a3, .int (nI n)])), (a0, zaI k 20 fT), (a1, zaI k 20 fX), (a2, zaI k 20 fY), (a3, zaI k 20 fZ), (hr2, zaJ k 3 (zfill fr 0 3))] H := hP
  have hD : va_D A [(h, .inr (5, [.ref a0, .ref a1, .ref a2, .ref a3, .int (nI n)])), (a0, zaI k 20 fT), (a1, zaI k 20 fX), (a2, zaI k 20 fY), (a3, zaI k 20 fZ), (hr2, zaJ k 3 (zfill fr 0 3))] := hD
  have hP := z_congJ hP 5 rfl (g := v3 0 0 0) (zall3 (by rfl) (by rfl) (by rfl)) (ws' := [(h, .inr (5, [.ref a0, .ref a1, .ref a2, .ref a3, .int (nI n)])), (a0, zaI k 20 fT), (a1, zaI k 20 fX), (a2, zaI k 20 fY), (a3, zaI k 20 fZ), (hr2, zaJ k 3 (v3 0 0 0))]) rfl
  have hD := z_congDJ hD 5 rfl (g := v3 0 0 0) (ws' := [(h, .inr (5, [.ref a0, .ref a1, .ref a2, .ref a3, .int (nI n)])), (a0, zaI k 20 fT), (a1, zaI k 20 fX), (a2, zaI k 20 fY), (a3, zaI k 20 fZ), (hr2, zaJ k 3 (v3 0 0 0))]) rfl
  have hP9 := hP.sub (ws' := [(h, .inr (5, [.ref a0, .ref a1, .ref a2, .ref a3, .int (nI n)])), (a0, zaI k 20 fT), (a1, zaI k 20 fX), (a2, zaI k 20 fY), (a3, zaI k 20 fZ), (hr2, zaJ k 3 (v3 0 0 0))]) [0, 1, 2, 3, 4, 5] rfl
  have hD9 := hD.sub (ws' := [(h, .inr (5, [.ref a0, .ref a1, .ref a2, .ref a3, .int (nI n)])), (a0, zaI k 20 fT), (a1, zaI k 20 fX), (a2, zaI k 20 fY), (a3, zaI k 20 fZ), (hr2, zaJ k 3 (v3 0 0 0))]) [0, 1, 2, 3, 4, 5] (by decide) rfl
  exact W.vret hx hb hr (fun t9 ht9 hW9 => ⟨⟨[(h, .inr (5, [.ref a0, .ref a1, .ref a2, .ref a3, .int (nI n)])), (a0, zaI k 20 fT), (a1, zaI k 20 fX), (a2, zaI k 20 fY), (a3, zaI k 20 fZ), (hr2, zaJ k 3 (v3 0 0 0))], rfl, rfl, by rw [ht9]; exact hP9, hD9⟩, hS.F ht9⟩) hS.2.2 dX6_takeTick_12
set_option maxHeartbeats 4000000 in
set_option maxRecDepth 100000 in
theorem c_X6_takeTick_p (l : Launch) (D : va_G) (k : Nat → ClassId) (sz : Nat) (h a0 a1 a2 a3 n hr2 : Nat) (fT fX fY fZ : Nat → Int32) (fr : Nat → Int64) (hn : 1 ≤ n) (hn2 : n ≤ 20) (ht : ¬ fT 0 - 1 = 0) : Met l yX6_takeTick wsX6_takeTick ({ frames := 2, cells := 0, slots := 0, locals := 38 } : Room) (va_Pc [.ref h, .ref hr2] (zPre D k [(h, .inr (5, [.ref a0, .ref a1, .ref a2, .ref a3, .int (nI n)])), (a0, zaI k 20 fT), (a1, zaI k 20 fX), (a2, zaI k 20 fY), (a3, zaI k 20 fZ), (hr2, zaJ k 3 fr)] sz zX0)) (zQv D [(h, .inr (5, [.ref a0, .ref a1, .ref a2, .ref a3, .int (nI n)])), (a0, zaI k 20 fT), (a1, zaI k 20 fX), (a2, zaI k 20 fY), (a3, zaI k 20 fZ), (hr2, zaJ k 3 fr)] sz (fun w : va_W => w = [(h, .inr (5, [.ref a0, .ref a1, .ref a2, .ref a3, .int (nI n)])), (a0, zaI k 20 (upd fT 0 (fT 0 - 1))), (a1, zaI k 20 fX), (a2, zaI k 20 fY), (a3, zaI k 20 fZ), (hr2, zaJ k 3 (v3 (fX 0).toInt64 (fY 0).toInt64 (fZ 0).toInt64))])) 0 0 (va_A [(h, .inr (5, [.ref a0, .ref a1, .ref a2, .ref a3, .int (nI n)])), (a0, zaI k 20 fT), (a1, zaI k 20 fX), (a2, zaI k 20 fY), (a3, zaI k 20 fZ), (hr2, zaJ k 3 fr)] sz) := by
  refine Met.ofW (cc := cX6_takeTick) (maxL := 2) (ret := none) (by decide) rfl ?_
  intro p e s m args below meth c s₁ B hml hv
  obtain ⟨rfl, hsz, hP, hK, hD0, hE⟩ := hv
  have hx := B.exec
  have hb := B.bytes
  have hr := B.returns
  have hts := atoms_spec (ws := wsX6_takeTick) B.pre
  have hown : s.vm.findClass RX6 = some m.cls := findClass_of_methodNamed B.named
  have hlocks := B.notSynchronized
  subst hsz
  have hD := hD0.self (sz := s.heap.size)
  delta zQv zB
  generalize hAe : va_A [(h, .inr (5, [.ref a0, .ref a1, .ref a2, .ref a3, .int (nI n)])), (a0, zaI k 20 fT), (a1, zaI k 20 fX), (a2, zaI k 20 fY), (a3, zaI k 20 fZ), (hr2, zaJ k 3 fr)] s.heap.size = A at hD hE ⊢
  have hA : ∀ q : Nat, s.heap.size ≤ q → A q := fun q h => by rw [← hAe]; exact Or.inr h
  have hS : va_S A s.heap s.heap [] := va_S.rf
  have hl := lv_entry [.ref h, .ref hr2] (n := 2) (Nat.le_of_ble_eq_true rfl)
  rw [lg_entry_eq]
  generalize (lg_sl [.ref h, .ref hr2] ++ List.replicate (2 - (lg_sl [.ref h, .ref hr2]).length) Slot.unset).toArray = ls at hl ⊢
  have hl : lv_has ls 2 [(0, .ref h), (1, .ref hr2)] := hl
  have hl24 : (Cond.fieldLink RX6 24 "InertialReference$Script" "count" "I").before #[Value.ref h, Value.ref hr2] s = true := zw hts 1 rfl
  have hinX6 : ∀ w ∈ u_ws RX6 TX6 5, w ∈ wsX6_takeTick := fun w h => List.mem_cons_of_mem _ (List.mem_append_right _ h)
  have hl15 : (Cond.fieldLink RX6 15 "InertialReference$Script" "x" "[I").before #[Value.ref h, Value.ref hr2] s = true := zw hts 2 rfl
  have hl18 : (Cond.fieldLink RX6 18 "InertialReference$Script" "y" "[I").before #[Value.ref h, Value.ref hr2] s = true := zw hts 3 rfl
  have hl21 : (Cond.fieldLink RX6 21 "InertialReference$Script" "z" "[I").before #[Value.ref h, Value.ref hr2] s = true := zw hts 4 rfl
  have hl11 : (Cond.fieldLink RX6 11 "InertialReference$Script" "ticks" "[I").before #[Value.ref h, Value.ref hr2] s = true := zw hts 5 rfl
  refine lv_aload_n hx hb dX6_takeTick_0 rfl (lv_at hl 0 rfl) ?_
  refine va_get (D := D) (ci := 5) (v := .int (nI n)) (C := RX6) (T := TX6) (N := 5) hx hb hts hinX6 hown hK hP 0 rfl rfl 4 (Nat.le_of_ble_eq_true rfl) hl24 (fun _ h9 => h9) rfl dX6_takeTick_1 ?_
  refine lv_if_ne (tgt := 13) hx hb dX6_takeTick_4 (by decide) (fun c => ?_) (fun c => absurd c (nI_ne0 (by omega) (by omega)))
  refine lv_aload_n hx hb dX6_takeTick_13 rfl (lv_at hl 1 rfl) ?_
  refine lv_iconst (v := 0) hx hb dX6_takeTick_14 (by decide) ?_
  refine lv_aload_n hx hb dX6_takeTick_15 rfl (lv_at hl 0 rfl) ?_
  refine va_get (D := D) (ci := 5) (v := .ref a1) (C := RX6) (T := TX6) (N := 5) hx hb hts hinX6 hown hK hP 0 rfl rfl 1 (Nat.le_of_ble_eq_true rfl) hl15 (fun _ h9 => h9) rfl dX6_takeTick_16 ?_
  refine lv_iconst (v := 0) hx hb dX6_takeTick_19 (by decide) ?_
  refine z_iald hx hb hK hP 2 rfl 0 zx0 (by decide) (v := fX 0) rfl dX6_takeTick_20 ?_
  refine lv_i2l (v := (fX 0).toInt64) hx hb dX6_takeTick_21 rfl ?_
  refine z_last hx hb hK hP hD hS 5 rfl 0 zx0 (by decide) (ws' := [(h, .inr (5, [.ref a0, .ref a1, .ref a2, .ref a3, .int (nI n)])), (a0, zaI k 20 fT), (a1, zaI k 20 fX), (a2, zaI k 20 fY), (a3, zaI k 20 fZ), (hr2, zaJ k 3 (vp_updL fr 0 ((fX 0).toInt64)))]) rfl dX6_takeTick_22 (fun H locs hP hD hS => ?_)
  refine lv_aload_n hx hb dX6_takeTick_23 rfl (lv_at hl 1 rfl) ?_
  refine lv_iconst (v := 1) hx hb dX6_takeTick_24 (by decide) ?_
  refine lv_aload_n hx hb dX6_takeTick_25 rfl (lv_at hl 0 rfl) ?_
  refine va_get (D := D) (ci := 5) (v := .ref a2) (C := RX6) (T := TX6) (N := 5) hx hb hts hinX6 hown hK hP 0 rfl rfl 2 (Nat.le_of_ble_eq_true rfl) hl18 (fun _ h9 => h9) rfl dX6_takeTick_26 ?_
  refine lv_iconst (v := 0) hx hb dX6_takeTick_29 (by decide) ?_
  refine z_iald hx hb hK hP 3 rfl 0 zx0 (by decide) (v := fY 0) rfl dX6_takeTick_30 ?_
  refine lv_i2l (v := (fY 0).toInt64) hx hb dX6_takeTick_31 rfl ?_
  refine z_last hx hb hK hP hD hS 5 rfl 1 zx1 (by decide) (ws' := [(h, .inr (5, [.ref a0, .ref a1, .ref a2, .ref a3, .int (nI n)])), (a0, zaI k 20 fT), (a1, zaI k 20 fX), (a2, zaI k 20 fY), (a3, zaI k 20 fZ), (hr2, zaJ k 3 (vp_updL (vp_updL fr 0 ((fX 0).toInt64)) 1 ((fY 0).toInt64)))]) rfl dX6_takeTick_32 (fun H locs hP hD hS => ?_)
  refine lv_aload_n hx hb dX6_takeTick_33 rfl (lv_at hl 1 rfl) ?_
  refine lv_iconst (v := 2) hx hb dX6_takeTick_34 (by decide) ?_
  refine lv_aload_n hx hb dX6_takeTick_35 rfl (lv_at hl 0 rfl) ?_
  refine va_get (D := D) (ci := 5) (v := .ref a3) (C := RX6) (T := TX6) (N := 5) hx hb hts hinX6 hown hK hP 0 rfl rfl 3 (Nat.le_of_ble_eq_true rfl) hl21 (fun _ h9 => h9) rfl dX6_takeTick_36 ?_
  refine lv_iconst (v := 0) hx hb dX6_takeTick_39 (by decide) ?_
  refine z_iald hx hb hK hP 4 rfl 0 zx0 (by decide) (v := fZ 0) rfl dX6_takeTick_40 ?_
  refine lv_i2l (v := (fZ 0).toInt64) hx hb dX6_takeTick_41 rfl ?_
  refine z_last hx hb hK hP hD hS 5 rfl 2 zx2 (by decide) (ws' := [(h, .inr (5, [.ref a0, .ref a1, .ref a2, .ref a3, .int (nI n)])), (a0, zaI k 20 fT), (a1, zaI k 20 fX), (a2, zaI k 20 fY), (a3, zaI k 20 fZ), (hr2, zaJ k 3 (vp_updL (vp_updL (vp_updL fr 0 ((fX 0).toInt64)) 1 ((fY 0).toInt64)) 2 ((fZ 0).toInt64)))]) rfl dX6_takeTick_42 (fun H locs hP hD hS => ?_)
  refine lv_aload_n hx hb dX6_takeTick_43 rfl (lv_at hl 0 rfl) ?_
  refine va_get (D := D) (ci := 5) (v := .ref a0) (C := RX6) (T := TX6) (N := 5) hx hb hts hinX6 hown hK hP 0 rfl rfl 0 (Nat.le_of_ble_eq_true rfl) hl11 (fun _ h9 => h9) rfl dX6_takeTick_44 ?_
  refine lv_iconst (v := 0) hx hb dX6_takeTick_47 (by decide) ?_
  refine lv_dup2_11 hx hb dX6_takeTick_48 rfl rfl ?_
  refine z_iald hx hb hK hP 1 rfl 0 zx0 (by decide) (v := fT 0) rfl dX6_takeTick_49 ?_
  refine lv_iconst (v := 1) hx hb dX6_takeTick_50 (by decide) ?_
  refine lv_isub hx hb dX6_takeTick_51 ?_
  refine z_iast hx hb hK hP hD hS 1 rfl 0 zx0 (by decide) (ws' := [(h, .inr (5, [.ref a0, .ref a1, .ref a2, .ref a3, .int (nI n)])), (a0, zaI k 20 (upd fT 0 ((fT 0) - 1))), (a1, zaI k 20 fX), (a2, zaI k 20 fY), (a3, zaI k 20 fZ), (hr2, zaJ k 3 (vp_updL (vp_updL (vp_updL fr 0 ((fX 0).toInt64)) 1 ((fY 0).toInt64)) 2 ((fZ 0).toInt64)))]) rfl dX6_takeTick_52 (fun H locs hP hD hS => ?_)
  refine lv_aload_n hx hb dX6_takeTick_53 rfl (lv_at hl 0 rfl) ?_
  refine va_get (D := D) (ci := 5) (v := .ref a0) (C := RX6) (T := TX6) (N := 5) hx hb hts hinX6 hown hK hP 0 rfl rfl 0 (Nat.le_of_ble_eq_true rfl) hl11 (fun _ h9 => h9) rfl dX6_takeTick_54 ?_
  refine lv_iconst (v := 0) hx hb dX6_takeTick_57 (by decide) ?_
  refine z_iald hx hb hK hP 1 rfl 0 zx0 (by decide) (v := (upd fT 0 ((fT 0) - 1)) 0) rfl dX6_takeTick_58 ?_
  refine lv_if_ne (tgt := 66) hx hb dX6_takeTick_59 (by decide) (fun c => ?_) (fun c => absurd c ht)
  have hP := z_congI hP 1 rfl (g := upd fT 0 (fT 0 - 1)) (by intro j9 hj9; rfl) (ws' := [(h, .inr (5, [.ref a0, .ref a1, .ref a2, .ref a3, .int (nI n)])), (a0, zaI k 20 (upd fT 0 (fT 0 - 1))), (a1, zaI k 20 fX), (a2, zaI k 20 fY), (a3, zaI k 20 fZ), (hr2, zaJ k 3 (vp_updL (vp_updL (vp_updL fr 0 ((fX 0).toInt64)) 1 ((fY 0).toInt64)) 2 ((fZ 0).toInt64)))]) rfl
  have hD := z_congDI hD 1 rfl (g := upd fT 0 (fT 0 - 1)) (ws' := [(h, .inr (5, [.ref a0, .ref a1, .ref a2, .ref a3, .int (nI n)])), (a0, zaI k 20 (upd fT 0 (fT 0 - 1))), (a1, zaI k 20 fX), (a2, zaI k 20 fY), (a3, zaI k 20 fZ), (hr2, zaJ k 3 (vp_updL (vp_updL (vp_updL fr 0 ((fX 0).toInt64)) 1 ((fY 0).toInt64)) 2 ((fZ 0).toInt64)))]) rfl
  have hP := z_congJ hP 5 rfl (g := v3 (fX 0).toInt64 (fY 0).toInt64 (fZ 0).toInt64) (zall3 (by rfl) (by rfl) (by rfl)) (ws' := [(h, .inr (5, [.ref a0, .ref a1, .ref a2, .ref a3, .int (nI n)])), (a0, zaI k 20 (upd fT 0 (fT 0 - 1))), (a1, zaI k 20 fX), (a2, zaI k 20 fY), (a3, zaI k 20 fZ), (hr2, zaJ k 3 (v3 (fX 0).toInt64 (fY 0).toInt64 (fZ 0).toInt64))]) rfl
  have hD := z_congDJ hD 5 rfl (g := v3 (fX 0).toInt64 (fY 0).toInt64 (fZ 0).toInt64) (ws' := [(h, .inr (5, [.ref a0, .ref a1, .ref a2, .ref a3, .int (nI n)])), (a0, zaI k 20 (upd fT 0 (fT 0 - 1))), (a1, zaI k 20 fX), (a2, zaI k 20 fY), (a3, zaI k 20 fZ), (hr2, zaJ k 3 (v3 (fX 0).toInt64 (fY 0).toInt64 (fZ 0).toInt64))]) rfl
  have hP9 := hP.sub (ws' := [(h, .inr (5, [.ref a0, .ref a1, .ref a2, .ref a3, .int (nI n)])), (a0, zaI k 20 (upd fT 0 (fT 0 - 1))), (a1, zaI k 20 fX), (a2, zaI k 20 fY), (a3, zaI k 20 fZ), (hr2, zaJ k 3 (v3 (fX 0).toInt64 (fY 0).toInt64 (fZ 0).toInt64))]) [0, 1, 2, 3, 4, 5] rfl
  have hD9 := hD.sub (ws' := [(h, .inr (5, [.ref a0, .ref a1, .ref a2, .ref a3, .int (nI n)])), (a0, zaI k 20 (upd fT 0 (fT 0 - 1))), (a1, zaI k 20 fX), (a2, zaI k 20 fY), (a3, zaI k 20 fZ), (hr2, zaJ k 3 (v3 (fX 0).toInt64 (fY 0).toInt64 (fZ 0).toInt64))]) [0, 1, 2, 3, 4, 5] (by decide) rfl
  exact W.vret hx hb hr (fun t9 ht9 hW9 => ⟨⟨[(h, .inr (5, [.ref a0, .ref a1, .ref a2, .ref a3, .int (nI n)])), (a0, zaI k 20 (upd fT 0 (fT 0 - 1))), (a1, zaI k 20 fX), (a2, zaI k 20 fY), (a3, zaI k 20 fZ), (hr2, zaJ k 3 (v3 (fX 0).toInt64 (fY 0).toInt64 (fZ 0).toInt64))], rfl, rfl, by rw [ht9]; exact hP9, hD9⟩, hS.F ht9⟩) hS.2.2 dX6_takeTick_66
set_option maxHeartbeats 4000000 in
set_option maxRecDepth 100000 in
theorem c_X6_takeTick_r (l : Launch) (D : va_G) (k : Nat → ClassId) (sz : Nat) (h a0 a1 a2 a3 n hr2 : Nat) (fT fX fY fZ : Nat → Int32) (fr : Nat → Int64) (hn : 1 ≤ n) (hn2 : n ≤ 20) (ht : fT 0 - 1 = 0) : Met l yX6_takeTick wsX6_takeTick ({ frames := 2, cells := 0, slots := 0, locals := 38 } : Room) (va_Pc [.ref h, .ref hr2] (zPre D k [(h, .inr (5, [.ref a0, .ref a1, .ref a2, .ref a3, .int (nI n)])), (a0, zaI k 20 fT), (a1, zaI k 20 fX), (a2, zaI k 20 fY), (a3, zaI k 20 fZ), (hr2, zaJ k 3 fr)] sz zX0)) (zQv D [(h, .inr (5, [.ref a0, .ref a1, .ref a2, .ref a3, .int (nI n)])), (a0, zaI k 20 fT), (a1, zaI k 20 fX), (a2, zaI k 20 fY), (a3, zaI k 20 fZ), (hr2, zaJ k 3 fr)] sz (fun w : va_W => w = [(h, .inr (5, [.ref a0, .ref a1, .ref a2, .ref a3, .int (nI (n - 1))])), (a0, zaI k 20 (shf (upd fT 0 (fT 0 - 1)) n)), (a1, zaI k 20 (shf fX n)), (a2, zaI k 20 (shf fY n)), (a3, zaI k 20 (shf fZ n)), (hr2, zaJ k 3 (v3 (fX 0).toInt64 (fY 0).toInt64 (fZ 0).toInt64))])) 0 0 (va_A [(h, .inr (5, [.ref a0, .ref a1, .ref a2, .ref a3, .int (nI n)])), (a0, zaI k 20 fT), (a1, zaI k 20 fX), (a2, zaI k 20 fY), (a3, zaI k 20 fZ), (hr2, zaJ k 3 fr)] sz) := by
  refine Met.ofW (cc := cX6_takeTick) (maxL := 2) (ret := none) (by decide) rfl ?_
  intro p e s m args below meth c s₁ B hml hv
  obtain ⟨rfl, hsz, hP, hK, hD0, hE⟩ := hv
  have hx := B.exec
  have hb := B.bytes
  have hr := B.returns
  have hts := atoms_spec (ws := wsX6_takeTick) B.pre
  have hown : s.vm.findClass RX6 = some m.cls := findClass_of_methodNamed B.named
  have hlocks := B.notSynchronized
  subst hsz
  have hD := hD0.self (sz := s.heap.size)
  delta zQv zB
  generalize hAe : va_A [(h, .inr (5, [.ref a0, .ref a1, .ref a2, .ref a3, .int (nI n)])), (a0, zaI k 20 fT), (a1, zaI k 20 fX), (a2, zaI k 20 fY), (a3, zaI k 20 fZ), (hr2, zaJ k 3 fr)] s.heap.size = A at hD hE ⊢
  have hA : ∀ q : Nat, s.heap.size ≤ q → A q := fun q h => by rw [← hAe]; exact Or.inr h
  have hS : va_S A s.heap s.heap [] := va_S.rf
  have hl := lv_entry [.ref h, .ref hr2] (n := 2) (Nat.le_of_ble_eq_true rfl)
  rw [lg_entry_eq]
  generalize (lg_sl [.ref h, .ref hr2] ++ List.replicate (2 - (lg_sl [.ref h, .ref hr2]).length) Slot.unset).toArray = ls at hl ⊢
  have hl : lv_has ls 2 [(0, .ref h), (1, .ref hr2)] := hl
  have hl24 : (Cond.fieldLink RX6 24 "InertialReference$Script" "count" "I").before #[Value.ref h, Value.ref hr2] s = true := zw hts 1 rfl
  have hinX6 : ∀ w ∈ u_ws RX6 TX6 5, w ∈ wsX6_takeTick := fun w h => List.mem_cons_of_mem _ (List.mem_append_right _ h)
  have hl15 : (Cond.fieldLink RX6 15 "InertialReference$Script" "x" "[I").before #[Value.ref h, Value.ref hr2] s = true := zw hts 2 rfl
  have hl18 : (Cond.fieldLink RX6 18 "InertialReference$Script" "y" "[I").before #[Value.ref h, Value.ref hr2] s = true := zw hts 3 rfl
  have hl21 : (Cond.fieldLink RX6 21 "InertialReference$Script" "z" "[I").before #[Value.ref h, Value.ref hr2] s = true := zw hts 4 rfl
  have hl11 : (Cond.fieldLink RX6 11 "InertialReference$Script" "ticks" "[I").before #[Value.ref h, Value.ref hr2] s = true := zw hts 5 rfl
  refine lv_aload_n hx hb dX6_takeTick_0 rfl (lv_at hl 0 rfl) ?_
  refine va_get (D := D) (ci := 5) (v := .int (nI n)) (C := RX6) (T := TX6) (N := 5) hx hb hts hinX6 hown hK hP 0 rfl rfl 4 (Nat.le_of_ble_eq_true rfl) hl24 (fun _ h9 => h9) rfl dX6_takeTick_1 ?_
  refine lv_if_ne (tgt := 13) hx hb dX6_takeTick_4 (by decide) (fun c => ?_) (fun c => absurd c (nI_ne0 (by omega) (by omega)))
  refine lv_aload_n hx hb dX6_takeTick_13 rfl (lv_at hl 1 rfl) ?_
  refine lv_iconst (v := 0) hx hb dX6_takeTick_14 (by decide) ?_
  refine lv_aload_n hx hb dX6_takeTick_15 rfl (lv_at hl 0 rfl) ?_
  refine va_get (D := D) (ci := 5) (v := .ref a1) (C := RX6) (T := TX6) (N := 5) hx hb hts hinX6 hown hK hP 0 rfl rfl 1 (Nat.le_of_ble_eq_true rfl) hl15 (fun _ h9 => h9) rfl dX6_takeTick_16 ?_
  refine lv_iconst (v := 0) hx hb dX6_takeTick_19 (by decide) ?_
  refine z_iald hx hb hK hP 2 rfl 0 zx0 (by decide) (v := fX 0) rfl dX6_takeTick_20 ?_
  refine lv_i2l (v := (fX 0).toInt64) hx hb dX6_takeTick_21 rfl ?_
  refine z_last hx hb hK hP hD hS 5 rfl 0 zx0 (by decide) (ws' := [(h, .inr (5, [.ref a0, .ref a1, .ref a2, .ref a3, .int (nI n)])), (a0, zaI k 20 fT), (a1, zaI k 20 fX), (a2, zaI k 20 fY), (a3, zaI k 20 fZ), (hr2, zaJ k 3 (vp_updL fr 0 ((fX 0).toInt64)))]) rfl dX6_takeTick_22 (fun H locs hP hD hS => ?_)
  refine lv_aload_n hx hb dX6_takeTick_23 rfl (lv_at hl 1 rfl) ?_
  refine lv_iconst (v := 1) hx hb dX6_takeTick_24 (by decide) ?_
  refine lv_aload_n hx hb dX6_takeTick_25 rfl (lv_at hl 0 rfl) ?_
  refine va_get (D := D) (ci := 5) (v := .ref a2) (C := RX6) (T := TX6) (N := 5) hx hb hts hinX6 hown hK hP 0 rfl rfl 2 (Nat.le_of_ble_eq_true rfl) hl18 (fun _ h9 => h9) rfl dX6_takeTick_26 ?_
  refine lv_iconst (v := 0) hx hb dX6_takeTick_29 (by decide) ?_
  refine z_iald hx hb hK hP 3 rfl 0 zx0 (by decide) (v := fY 0) rfl dX6_takeTick_30 ?_
  refine lv_i2l (v := (fY 0).toInt64) hx hb dX6_takeTick_31 rfl ?_
  refine z_last hx hb hK hP hD hS 5 rfl 1 zx1 (by decide) (ws' := [(h, .inr (5, [.ref a0, .ref a1, .ref a2, .ref a3, .int (nI n)])), (a0, zaI k 20 fT), (a1, zaI k 20 fX), (a2, zaI k 20 fY), (a3, zaI k 20 fZ), (hr2, zaJ k 3 (vp_updL (vp_updL fr 0 ((fX 0).toInt64)) 1 ((fY 0).toInt64)))]) rfl dX6_takeTick_32 (fun H locs hP hD hS => ?_)
  refine lv_aload_n hx hb dX6_takeTick_33 rfl (lv_at hl 1 rfl) ?_
  refine lv_iconst (v := 2) hx hb dX6_takeTick_34 (by decide) ?_
  refine lv_aload_n hx hb dX6_takeTick_35 rfl (lv_at hl 0 rfl) ?_
  refine va_get (D := D) (ci := 5) (v := .ref a3) (C := RX6) (T := TX6) (N := 5) hx hb hts hinX6 hown hK hP 0 rfl rfl 3 (Nat.le_of_ble_eq_true rfl) hl21 (fun _ h9 => h9) rfl dX6_takeTick_36 ?_
  refine lv_iconst (v := 0) hx hb dX6_takeTick_39 (by decide) ?_
  refine z_iald hx hb hK hP 4 rfl 0 zx0 (by decide) (v := fZ 0) rfl dX6_takeTick_40 ?_
  refine lv_i2l (v := (fZ 0).toInt64) hx hb dX6_takeTick_41 rfl ?_
  refine z_last hx hb hK hP hD hS 5 rfl 2 zx2 (by decide) (ws' := [(h, .inr (5, [.ref a0, .ref a1, .ref a2, .ref a3, .int (nI n)])), (a0, zaI k 20 fT), (a1, zaI k 20 fX), (a2, zaI k 20 fY), (a3, zaI k 20 fZ), (hr2, zaJ k 3 (vp_updL (vp_updL (vp_updL fr 0 ((fX 0).toInt64)) 1 ((fY 0).toInt64)) 2 ((fZ 0).toInt64)))]) rfl dX6_takeTick_42 (fun H locs hP hD hS => ?_)
  refine lv_aload_n hx hb dX6_takeTick_43 rfl (lv_at hl 0 rfl) ?_
  refine va_get (D := D) (ci := 5) (v := .ref a0) (C := RX6) (T := TX6) (N := 5) hx hb hts hinX6 hown hK hP 0 rfl rfl 0 (Nat.le_of_ble_eq_true rfl) hl11 (fun _ h9 => h9) rfl dX6_takeTick_44 ?_
  refine lv_iconst (v := 0) hx hb dX6_takeTick_47 (by decide) ?_
  refine lv_dup2_11 hx hb dX6_takeTick_48 rfl rfl ?_
  refine z_iald hx hb hK hP 1 rfl 0 zx0 (by decide) (v := fT 0) rfl dX6_takeTick_49 ?_
  refine lv_iconst (v := 1) hx hb dX6_takeTick_50 (by decide) ?_
  refine lv_isub hx hb dX6_takeTick_51 ?_
  refine z_iast hx hb hK hP hD hS 1 rfl 0 zx0 (by decide) (ws' := [(h, .inr (5, [.ref a0, .ref a1, .ref a2, .ref a3, .int (nI n)])), (a0, zaI k 20 (upd fT 0 ((fT 0) - 1))), (a1, zaI k 20 fX), (a2, zaI k 20 fY), (a3, zaI k 20 fZ), (hr2, zaJ k 3 (vp_updL (vp_updL (vp_updL fr 0 ((fX 0).toInt64)) 1 ((fY 0).toInt64)) 2 ((fZ 0).toInt64)))]) rfl dX6_takeTick_52 (fun H locs hP hD hS => ?_)
  refine lv_aload_n hx hb dX6_takeTick_53 rfl (lv_at hl 0 rfl) ?_
  refine va_get (D := D) (ci := 5) (v := .ref a0) (C := RX6) (T := TX6) (N := 5) hx hb hts hinX6 hown hK hP 0 rfl rfl 0 (Nat.le_of_ble_eq_true rfl) hl11 (fun _ h9 => h9) rfl dX6_takeTick_54 ?_
  refine lv_iconst (v := 0) hx hb dX6_takeTick_57 (by decide) ?_
  refine z_iald hx hb hK hP 1 rfl 0 zx0 (by decide) (v := (upd fT 0 ((fT 0) - 1)) 0) rfl dX6_takeTick_58 ?_
  refine lv_if_ne (tgt := 66) hx hb dX6_takeTick_59 (by decide) (fun c => absurd c (fun h => h ht)) (fun c => ?_)
  refine lv_aload_n hx hb dX6_takeTick_62 rfl (lv_at hl 0 rfl) ?_
  refine z_callv0 (wc := [(h, .inr (5, [.ref a0, .ref a1, .ref a2, .ref a3, .int (nI n)])), (a0, zaI k 20 (upd fT 0 ((fT 0) - 1))), (a1, zaI k 20 fX), (a2, zaI k 20 fY), (a3, zaI k 20 fZ)]) (wr := [(hr2, zaJ k 3 (vp_updL (vp_updL (vp_updL fr 0 ((fX 0).toInt64)) 1 ((fY 0).toInt64)) 2 ((fZ 0).toInt64)))]) (va_runV (As := []) (rest := []) ⟨hx, hb, hml, hown, hts⟩ (c_X6_removeFirst l D k H.size h a0 a1 a2 a3 n (upd fT 0 ((fT 0) - 1)) fX fY fZ hn hn2) (cwV 0 hts gX6_takeTick_X6_removeFirst rfl rfl rfl (by decide +kernel) ⟨Nat.le_of_ble_eq_true rfl, Nat.le_of_ble_eq_true rfl⟩) (z_preV (wc := [(h, .inr (5, [.ref a0, .ref a1, .ref a2, .ref a3, .int (nI n)])), (a0, zaI k 20 (upd fT 0 ((fT 0) - 1))), (a1, zaI k 20 fX), (a2, zaI k 20 fY), (a3, zaI k 20 fZ)]) 0 5 hP hD hK [0, 1, 2, 3, 4] rfl rfl rfl rfl zb0 zp0) rfl rfl hl.1 rfl (lv_room (Nat.le_of_ble_eq_true rfl)) dX6_takeTick_63 ⟨Nat.zero_le _, Nat.zero_le _⟩) hP hD hS hA [0, 1, 2, 3, 4] [5] rfl rfl rfl (by decide) (fun w H locs hF hP hD hS => ?_)
  subst hF
  have hP : va_P D vwCl [(hr2, zaJ k 3 (vp_updL (vp_updL (vp_updL fr 0 ((fX 0).toInt64)) 1 ((fY 0).toInt64)) 2 ((fZ 0).toInt64))), (h, .inr (5, [.ref a0, .ref a1, .ref a2, .ref a3, .int (nI (n - 1))])), (a0, zaI k 20 (shf (upd fT 0 ((fT 0) - 1)) n)), (a1, zaI k 20 (shf fX n)), (a2, zaI k 20 (shf fY n)), (a3, zaI k 20 (shf fZ n))] H := hP
  have hD : va_D A [(hr2, zaJ k 3 (vp_updL (vp_updL (vp_updL fr 0 ((fX 0).toInt64)) 1 ((fY 0).toInt64)) 2 ((fZ 0).toInt64))), (h, .inr (5, [.ref a0, .ref a1, .ref a2, .ref a3, .int (nI (n - 1))])), (a0, zaI k 20 (shf (upd fT 0 ((fT 0) - 1)) n)), (a1, zaI k 20 (shf fX n)), (a2, zaI k 20 (shf fY n)), (a3, zaI k 20 (shf fZ n))] := hD
  have hP := z_congI hP 2 rfl (g := shf (upd fT 0 (fT 0 - 1)) n) (by intro j9 hj9; rfl) (ws' := [(hr2, zaJ k 3 (vp_updL (vp_updL (vp_updL fr 0 ((fX 0).toInt64)) 1 ((fY 0).toInt64)) 2 ((fZ 0).toInt64))), (h, .inr (5, [.ref a0, .ref a1, .ref a2, .ref a3, .int (nI (n - 1))])), (a0, zaI k 20 (shf (upd fT 0 (fT 0 - 1)) n)), (a1, zaI k 20 (shf fX n)), (a2, zaI k 20 (shf fY n)), (a3, zaI k 20 (shf fZ n))]) rfl
  have hD := z_congDI hD 2 rfl (g := shf (upd fT 0 (fT 0 - 1)) n) (ws' := [(hr2, zaJ k 3 (vp_updL (vp_updL (vp_updL fr 0 ((fX 0).toInt64)) 1 ((fY 0).toInt64)) 2 ((fZ 0).toInt64))), (h, .inr (5, [.ref a0, .ref a1, .ref a2, .ref a3, .int (nI (n - 1))])), (a0, zaI k 20 (shf (upd fT 0 (fT 0 - 1)) n)), (a1, zaI k 20 (shf fX n)), (a2, zaI k 20 (shf fY n)), (a3, zaI k 20 (shf fZ n))]) rfl
  have hP := z_congJ hP 0 rfl (g := v3 (fX 0).toInt64 (fY 0).toInt64 (fZ 0).toInt64) (zall3 (by rfl) (by rfl) (by rfl)) (ws' := [(hr2, zaJ k 3 (v3 (fX 0).toInt64 (fY 0).toInt64 (fZ 0).toInt64)), (h, .inr (5, [.ref a0, .ref a1, .ref a2, .ref a3, .int (nI (n - 1))])), (a0, zaI k 20 (shf (upd fT 0 (fT 0 - 1)) n)), (a1, zaI k 20 (shf fX n)), (a2, zaI k 20 (shf fY n)), (a3, zaI k 20 (shf fZ n))]) rfl
  have hD := z_congDJ hD 0 rfl (g := v3 (fX 0).toInt64 (fY 0).toInt64 (fZ 0).toInt64) (ws' := [(hr2, zaJ k 3 (v3 (fX 0).toInt64 (fY 0).toInt64 (fZ 0).toInt64)), (h, .inr (5, [.ref a0, .ref a1, .ref a2, .ref a3, .int (nI (n - 1))])), (a0, zaI k 20 (shf (upd fT 0 (fT 0 - 1)) n)), (a1, zaI k 20 (shf fX n)), (a2, zaI k 20 (shf fY n)), (a3, zaI k 20 (shf fZ n))]) rfl
  have hP9 := hP.sub (ws' := [(h, .inr (5, [.ref a0, .ref a1, .ref a2, .ref a3, .int (nI (n - 1))])), (a0, zaI k 20 (shf (upd fT 0 (fT 0 - 1)) n)), (a1, zaI k 20 (shf fX n)), (a2, zaI k 20 (shf fY n)), (a3, zaI k 20 (shf fZ n)), (hr2, zaJ k 3 (v3 (fX 0).toInt64 (fY 0).toInt64 (fZ 0).toInt64))]) [1, 2, 3, 4, 5, 0] rfl
  have hD9 := hD.sub (ws' := [(h, .inr (5, [.ref a0, .ref a1, .ref a2, .ref a3, .int (nI (n - 1))])), (a0, zaI k 20 (shf (upd fT 0 (fT 0 - 1)) n)), (a1, zaI k 20 (shf fX n)), (a2, zaI k 20 (shf fY n)), (a3, zaI k 20 (shf fZ n)), (hr2, zaJ k 3 (v3 (fX 0).toInt64 (fY 0).toInt64 (fZ 0).toInt64))]) [1, 2, 3, 4, 5, 0] (by decide) rfl
  exact W.vret hx hb hr (fun t9 ht9 hW9 => ⟨⟨[(h, .inr (5, [.ref a0, .ref a1, .ref a2, .ref a3, .int (nI (n - 1))])), (a0, zaI k 20 (shf (upd fT 0 (fT 0 - 1)) n)), (a1, zaI k 20 (shf fX n)), (a2, zaI k 20 (shf fY n)), (a3, zaI k 20 (shf fZ n)), (hr2, zaJ k 3 (v3 (fX 0).toInt64 (fY 0).toInt64 (fZ 0).toInt64))], rfl, rfl, by rw [ht9]; exact hP9, hD9⟩, hS.F ht9⟩) hS.2.2 dX6_takeTick_66
set_option maxHeartbeats 4000000 in
set_option maxRecDepth 100000 in
theorem c_X2_isRunning (l : Launch) (D : va_G) (k : Nat → ClassId) (sz : Nat) (h a0 : Nat) (tk lf : Int32) : Met l yX2_isRunning wsX2_isRunning ({ frames := 0, cells := 0, slots := 0, locals := 0 } : Room) (va_Pc [.ref h] (zPre D k [(h, .inr (2, [.ref a0, .int tk, .int lf]))] sz zX0)) (zQi D [(h, .inr (2, [.ref a0, .int tk, .int lf]))] sz (zb (run0 lf)) (fun w : va_W => w = [(h, .inr (2, [.ref a0, .int tk, .int lf]))])) 0 0 (va_A [(h, .inr (2, [.ref a0, .int tk, .int lf]))] sz) := by
  refine Met.ofW (cc := cX2_isRunning) (maxL := 1) (ret := (some .boolean)) (by decide) rfl ?_
  intro p e s m args below meth c s₁ B hml hv
  obtain ⟨rfl, hsz, hP, hK, hD0, hE⟩ := hv
  have hx := B.exec
  have hb := B.bytes
  have hr := B.returns
  have hts := atoms_spec (ws := wsX2_isRunning) B.pre
  have hown : s.vm.findClass RX2 = some m.cls := findClass_of_methodNamed B.named
  have hlocks := B.notSynchronized
  subst hsz
  have hD := hD0.self (sz := s.heap.size)
  delta zQi zB
  generalize hAe : va_A [(h, .inr (2, [.ref a0, .int tk, .int lf]))] s.heap.size = A at hD hE ⊢
  have hA : ∀ q : Nat, s.heap.size ≤ q → A q := fun q h => by rw [← hAe]; exact Or.inr h
  have hS : va_S A s.heap s.heap [] := va_S.rf
  have hl := lv_entry [.ref h] (n := 1) (Nat.le_of_ble_eq_true rfl)
  rw [lg_entry_eq]
  generalize (lg_sl [.ref h] ++ List.replicate (1 - (lg_sl [.ref h]).length) Slot.unset).toArray = ls at hl ⊢
  have hl : lv_has ls 1 [(0, .ref h)] := hl
  have hl15 : (Cond.fieldLink RX2 15 "InertialReference$Calibration" "ticksLeft" "I").before #[Value.ref h] s = true := zw hts 1 rfl
  have hinX2 : ∀ w ∈ u_ws RX2 TX2 3, w ∈ wsX2_isRunning := fun w h => List.mem_cons_of_mem _ (List.mem_append_right _ h)
  refine lv_aload_n hx hb dX2_isRunning_0 rfl (lv_at hl 0 rfl) ?_
  refine va_get (D := D) (ci := 2) (v := .int lf) (C := RX2) (T := TX2) (N := 3) hx hb hts hinX2 hown hK hP 0 rfl rfl 2 (Nat.le_of_ble_eq_true rfl) hl15 (fun _ h9 => h9) rfl dX2_isRunning_1 ?_
  refine lv_if_le (tgt := 11) hx hb dX2_isRunning_4 (by decide) (fun c_1 => ?_) (fun c_1 => ?_)
  · skip
    have c_1 : lf.toInt ≤ 0 := zle c_1 rfl (by decide)
    refine lv_iconst (v := 0) hx hb dX2_isRunning_11 (by decide) ?_
    have hP9 := hP.sub (ws' := [(h, .inr (2, [.ref a0, .int tk, .int lf]))]) [0] rfl
    have hD9 := hD.sub (ws' := [(h, .inr (2, [.ref a0, .int tk, .int lf]))]) [0] (by decide) rfl
    exact W.zret (v := 0) hx hb hr rfl (fun t9 ht9 hW9 => ⟨⟨0, [(h, .inr (2, [.ref a0, .int tk, .int lf]))], rfl, ⟨by (exact zb_f (run0_f (by omega))), rfl⟩, by rw [ht9]; exact hP9, hD9⟩, hS.F ht9⟩) hS.2.2 dX2_isRunning_12
  · skip
    have c_1 : 0 < lf.toInt := znle c_1 rfl (by decide)
    refine lv_iconst (v := 1) hx hb dX2_isRunning_7 (by decide) ?_
    refine lv_goto (tgt := 12) hx hb dX2_isRunning_8 (by decide) ?_
    have hP9 := hP.sub (ws' := [(h, .inr (2, [.ref a0, .int tk, .int lf]))]) [0] rfl
    have hD9 := hD.sub (ws' := [(h, .inr (2, [.ref a0, .int tk, .int lf]))]) [0] (by decide) rfl
    exact W.zret (v := 1) hx hb hr rfl (fun t9 ht9 hW9 => ⟨⟨1, [(h, .inr (2, [.ref a0, .int tk, .int lf]))], rfl, ⟨by (exact zb_t (run0_t (by omega))), rfl⟩, by rw [ht9]; exact hP9, hD9⟩, hS.F ht9⟩) hS.2.2 dX2_isRunning_12
set_option maxHeartbeats 4000000 in
set_option maxRecDepth 100000 in
theorem c_X2_start (l : Launch) (D : va_G) (k : Nat → ClassId) (sz : Nat) (h a0 : Nat) (fS : Nat → Int64) (tk lf : Int32) (t : Int32) : Met l yX2_start wsX2_start ({ frames := 1, cells := 0, slots := 0, locals := 24 } : Room) (va_Pc [.ref h, .int t] (zPre D k [(h, .inr (2, [.ref a0, .int tk, .int lf])), (a0, zaJ k 3 fS)] sz zX0)) (zQv D [(h, .inr (2, [.ref a0, .int tk, .int lf])), (a0, zaJ k 3 fS)] sz (fun w : va_W => w = [(h, .inr (2, [.ref a0, .int t, .int t])), (a0, zaJ k 3 (v3 0 0 0))])) 0 0 (va_A [(h, .inr (2, [.ref a0, .int tk, .int lf])), (a0, zaJ k 3 fS)] sz) := by
  refine Met.ofW (cc := cX2_start) (maxL := 2) (ret := none) (by decide) rfl ?_
  intro p e s m args below meth c s₁ B hml hv
  obtain ⟨rfl, hsz, hP, hK, hD0, hE⟩ := hv
  have hx := B.exec
  have hb := B.bytes
  have hr := B.returns
  have hts := atoms_spec (ws := wsX2_start) B.pre
  have hown : s.vm.findClass RX2 = some m.cls := findClass_of_methodNamed B.named
  have hlocks := B.notSynchronized
  subst hsz
  have hD := hD0.self (sz := s.heap.size)
  delta zQv zB
  generalize hAe : va_A [(h, .inr (2, [.ref a0, .int tk, .int lf])), (a0, zaJ k 3 fS)] s.heap.size = A at hD hE ⊢
  have hA : ∀ q : Nat, s.heap.size ≤ q → A q := fun q h => by rw [← hAe]; exact Or.inr h
  have hS : va_S A s.heap s.heap [] := va_S.rf
  have hl := lv_entry [.ref h, .int t] (n := 2) (Nat.le_of_ble_eq_true rfl)
  rw [lg_entry_eq]
  generalize (lg_sl [.ref h, .int t] ++ List.replicate (2 - (lg_sl [.ref h, .int t]).length) Slot.unset).toArray = ls at hl ⊢
  have hl : lv_has ls 2 [(0, .ref h), (1, .int t)] := hl
  have hl9 : (Cond.fieldLink RX2 9 "InertialReference$Calibration" "sums" "[J").before #[Value.ref h, Value.int t] s = true := zw hts 1 rfl
  have hinX2 : ∀ w ∈ u_ws RX2 TX2 3, w ∈ wsX2_start := fun w h => List.mem_cons_of_mem _ (List.mem_append_right _ h)
  have hl25 : (Cond.fieldLink RX2 25 "InertialReference$Calibration" "ticks" "I").before #[Value.ref h, Value.int t] s = true := zw hts 2 rfl
  have hl15 : (Cond.fieldLink RX2 15 "InertialReference$Calibration" "ticksLeft" "I").before #[Value.ref h, Value.int t] s = true := zw hts 3 rfl
  refine lv_aload_n hx hb dX2_start_0 rfl (lv_at hl 0 rfl) ?_
  refine va_get (D := D) (ci := 2) (v := .ref a0) (C := RX2) (T := TX2) (N := 3) hx hb hts hinX2 hown hK hP 0 rfl rfl 0 (Nat.le_of_ble_eq_true rfl) hl9 (fun _ h9 => h9) rfl dX2_start_1 ?_
  refine lv_lconst (v := 0) hx hb dX2_start_4 (by decide) ?_
  refine z_callv0 (wc := [(a0, zaJ k 3 fS)]) (wr := [(h, .inr (2, [.ref a0, .int tk, .int lf]))]) (va_runS (As := [.ref a0, .long 0]) (rest := []) ⟨hx, hb, hml, hown, hts⟩ (c_J7_fill_d0a16 l D k s.heap.size a0 3 fS 0 (by decide)) (va_cwS 2 hts gX2_start_J7_fill_d0a16 rfl rfl rfl (by decide +kernel) ⟨Nat.le_of_ble_eq_true rfl, Nat.le_of_ble_eq_true rfl⟩) (z_preS (wc := [(a0, zaJ k 3 fS)]) hP hD hK [1] rfl rfl zb0 zp0) rfl rfl hl.1 rfl (lv_room (Nat.le_of_ble_eq_true rfl)) dX2_start_5 ⟨Nat.zero_le _, Nat.zero_le _⟩) hP hD hS hA [1] [0] rfl rfl rfl (by decide) (fun w H locs hF hP hD hS => ?_)
  subst hF
  have hP : va_P D vwCl [(h, .inr (2, [.ref a0, .int tk, .int lf])), (a0, zaJ k 3 (zfill fS 0 3))] H := hP
  have hD : va_D A [(h, .inr (2, [.ref a0, .int tk, .int lf])), (a0, zaJ k 3 (zfill fS 0 3))] := hD
  refine lv_aload_n hx hb dX2_start_8 rfl (lv_at hl 0 rfl) ?_
  refine lv_iload_n hx hb dX2_start_9 rfl (lv_at hl 1 rfl) ?_
  refine va_put (D := D) (ci := 2) (v := .int t) (ty := .int) (C := RX2) (T := TX2) (N := 3) hx hb hts hinX2 tyX2 tyX2_ok nmX2 hown hK hP hD hS 0 rfl rfl 1 (Nat.le_of_ble_eq_true rfl) hl25 (fun _ h9 => h9) rfl  (by decide +kernel) rfl rfl (Nat.le_of_ble_eq_true rfl) dX2_start_10 (fun H locs hP hD hS => ?_)
  have hP : va_P D vwCl [(h, .inr (2, [.ref a0, .int t, .int lf])), (a0, zaJ k 3 (zfill fS 0 3))] H := hP
  have hD : va_D A [(h, .inr (2, [.ref a0, .int t, .int lf])), (a0, zaJ k 3 (zfill fS 0 3))] := hD
  refine lv_aload_n hx hb dX2_start_13 rfl (lv_at hl 0 rfl) ?_
  refine lv_iload_n hx hb dX2_start_14 rfl (lv_at hl 1 rfl) ?_
  refine va_put (D := D) (ci := 2) (v := .int t) (ty := .int) (C := RX2) (T := TX2) (N := 3) hx hb hts hinX2 tyX2 tyX2_ok nmX2 hown hK hP hD hS 0 rfl rfl 2 (Nat.le_of_ble_eq_true rfl) hl15 (fun _ h9 => h9) rfl  (by decide +kernel) rfl rfl (Nat.le_of_ble_eq_true rfl) dX2_start_15 (fun H locs hP hD hS => ?_)
  have hP : va_P D vwCl [(h, .inr (2, [.ref a0, .int t, .int t])), (a0, zaJ k 3 (zfill fS 0 3))] H := hP
  have hD : va_D A [(h, .inr (2, [.ref a0, .int t, .int t])), (a0, zaJ k 3 (zfill fS 0 3))] := hD
  have hP := z_congJ hP 1 rfl (g := v3 0 0 0) (zall3 (by rfl) (by rfl) (by rfl)) (ws' := [(h, .inr (2, [.ref a0, .int t, .int t])), (a0, zaJ k 3 (v3 0 0 0))]) rfl
  have hD := z_congDJ hD 1 rfl (g := v3 0 0 0) (ws' := [(h, .inr (2, [.ref a0, .int t, .int t])), (a0, zaJ k 3 (v3 0 0 0))]) rfl
  have hP9 := hP.sub (ws' := [(h, .inr (2, [.ref a0, .int t, .int t])), (a0, zaJ k 3 (v3 0 0 0))]) [0, 1] rfl
  have hD9 := hD.sub (ws' := [(h, .inr (2, [.ref a0, .int t, .int t])), (a0, zaJ k 3 (v3 0 0 0))]) [0, 1] (by decide) rfl
  exact W.vret hx hb hr (fun t9 ht9 hW9 => ⟨⟨[(h, .inr (2, [.ref a0, .int t, .int t])), (a0, zaJ k 3 (v3 0 0 0))], rfl, rfl, by rw [ht9]; exact hP9, hD9⟩, hS.F ht9⟩) hS.2.2 dX2_start_18
set_option maxHeartbeats 4000000 in
set_option maxRecDepth 100000 in
theorem c_X2_stop (l : Launch) (D : va_G) (k : Nat → ClassId) (sz : Nat) (h a0 : Nat) (tk lf : Int32) : Met l yX2_stop wsX2_stop ({ frames := 0, cells := 0, slots := 0, locals := 0 } : Room) (va_Pc [.ref h] (zPre D k [(h, .inr (2, [.ref a0, .int tk, .int lf]))] sz zX0)) (zQv D [(h, .inr (2, [.ref a0, .int tk, .int lf]))] sz (fun w : va_W => w = [(h, .inr (2, [.ref a0, .int 0, .int 0]))])) 0 0 (va_A [(h, .inr (2, [.ref a0, .int tk, .int lf]))] sz) := by
  refine Met.ofW (cc := cX2_stop) (maxL := 1) (ret := none) (by decide) rfl ?_
  intro p e s m args below meth c s₁ B hml hv
  obtain ⟨rfl, hsz, hP, hK, hD0, hE⟩ := hv
  have hx := B.exec
  have hb := B.bytes
  have hr := B.returns
  have hts := atoms_spec (ws := wsX2_stop) B.pre
  have hown : s.vm.findClass RX2 = some m.cls := findClass_of_methodNamed B.named
  have hlocks := B.notSynchronized
  subst hsz
  have hD := hD0.self (sz := s.heap.size)
  delta zQv zB
  generalize hAe : va_A [(h, .inr (2, [.ref a0, .int tk, .int lf]))] s.heap.size = A at hD hE ⊢
  have hA : ∀ q : Nat, s.heap.size ≤ q → A q := fun q h => by rw [← hAe]; exact Or.inr h
  have hS : va_S A s.heap s.heap [] := va_S.rf
  have hl := lv_entry [.ref h] (n := 1) (Nat.le_of_ble_eq_true rfl)
  rw [lg_entry_eq]
  generalize (lg_sl [.ref h] ++ List.replicate (1 - (lg_sl [.ref h]).length) Slot.unset).toArray = ls at hl ⊢
  have hl : lv_has ls 1 [(0, .ref h)] := hl
  have hl25 : (Cond.fieldLink RX2 25 "InertialReference$Calibration" "ticks" "I").before #[Value.ref h] s = true := zw hts 1 rfl
  have hinX2 : ∀ w ∈ u_ws RX2 TX2 3, w ∈ wsX2_stop := fun w h => List.mem_cons_of_mem _ (List.mem_append_right _ h)
  have hl15 : (Cond.fieldLink RX2 15 "InertialReference$Calibration" "ticksLeft" "I").before #[Value.ref h] s = true := zw hts 2 rfl
  refine lv_aload_n hx hb dX2_stop_0 rfl (lv_at hl 0 rfl) ?_
  refine lv_iconst (v := 0) hx hb dX2_stop_1 (by decide) ?_
  refine va_put (D := D) (ci := 2) (v := .int 0) (ty := .int) (C := RX2) (T := TX2) (N := 3) hx hb hts hinX2 tyX2 tyX2_ok nmX2 hown hK hP hD hS 0 rfl rfl 1 (Nat.le_of_ble_eq_true rfl) hl25 (fun _ h9 => h9) rfl  (by decide +kernel) rfl rfl (Nat.le_of_ble_eq_true rfl) dX2_stop_2 (fun H locs hP hD hS => ?_)
  have hP : va_P D vwCl [(h, .inr (2, [.ref a0, .int 0, .int lf]))] H := hP
  have hD : va_D A [(h, .inr (2, [.ref a0, .int 0, .int lf]))] := hD
  refine lv_aload_n hx hb dX2_stop_5 rfl (lv_at hl 0 rfl) ?_
  refine lv_iconst (v := 0) hx hb dX2_stop_6 (by decide) ?_
  refine va_put (D := D) (ci := 2) (v := .int 0) (ty := .int) (C := RX2) (T := TX2) (N := 3) hx hb hts hinX2 tyX2 tyX2_ok nmX2 hown hK hP hD hS 0 rfl rfl 2 (Nat.le_of_ble_eq_true rfl) hl15 (fun _ h9 => h9) rfl  (by decide +kernel) rfl rfl (Nat.le_of_ble_eq_true rfl) dX2_stop_7 (fun H locs hP hD hS => ?_)
  have hP : va_P D vwCl [(h, .inr (2, [.ref a0, .int 0, .int 0]))] H := hP
  have hD : va_D A [(h, .inr (2, [.ref a0, .int 0, .int 0]))] := hD
  have hP9 := hP.sub (ws' := [(h, .inr (2, [.ref a0, .int 0, .int 0]))]) [0] rfl
  have hD9 := hD.sub (ws' := [(h, .inr (2, [.ref a0, .int 0, .int 0]))]) [0] (by decide) rfl
  exact W.vret hx hb hr (fun t9 ht9 hW9 => ⟨⟨[(h, .inr (2, [.ref a0, .int 0, .int 0]))], rfl, rfl, by rw [ht9]; exact hP9, hD9⟩, hS.F ht9⟩) hS.2.2 dX2_stop_10
set_option maxHeartbeats 4000000 in
set_option maxRecDepth 100000 in
theorem c_X2_add (l : Launch) (D : va_G) (k : Nat → ClassId) (sz : Nat) (h a0 : Nat) (fS : Nat → Int64) (tk lf : Int32) (i : Nat) (v : Int64) (hi : i < 3) : Met l yX2_add wsX2_add ({ frames := 1, cells := 0, slots := 0, locals := 20 } : Room) (va_Pc [.ref h, .int (nI i), .long v] (zPre D k [(h, .inr (2, [.ref a0, .int tk, .int lf])), (a0, zaJ k 3 fS)] sz zX0)) (zQv D [(h, .inr (2, [.ref a0, .int tk, .int lf])), (a0, zaJ k 3 fS)] sz (fun w : va_W => w = [(h, .inr (2, [.ref a0, .int tk, .int lf])), (a0, zaJ k 3 (caddf (run0 lf) fS i v))])) 0 0 (va_A [(h, .inr (2, [.ref a0, .int tk, .int lf])), (a0, zaJ k 3 fS)] sz) := by
  refine Met.ofW (cc := cX2_add) (maxL := 4) (ret := none) (by decide) rfl ?_
  intro p e s m args below meth c s₁ B hml hv
  obtain ⟨rfl, hsz, hP, hK, hD0, hE⟩ := hv
  have hx := B.exec
  have hb := B.bytes
  have hr := B.returns
  have hts := atoms_spec (ws := wsX2_add) B.pre
  have hown : s.vm.findClass RX2 = some m.cls := findClass_of_methodNamed B.named
  have hlocks := B.notSynchronized
  subst hsz
  have hD := hD0.self (sz := s.heap.size)
  delta zQv zB
  generalize hAe : va_A [(h, .inr (2, [.ref a0, .int tk, .int lf])), (a0, zaJ k 3 fS)] s.heap.size = A at hD hE ⊢
  have hA : ∀ q : Nat, s.heap.size ≤ q → A q := fun q h => by rw [← hAe]; exact Or.inr h
  have hS : va_S A s.heap s.heap [] := va_S.rf
  have hl := lv_entry [.ref h, .int (nI i), .long v] (n := 4) (Nat.le_of_ble_eq_true rfl)
  rw [lg_entry_eq]
  generalize (lg_sl [.ref h, .int (nI i), .long v] ++ List.replicate (4 - (lg_sl [.ref h, .int (nI i), .long v]).length) Slot.unset).toArray = ls at hl ⊢
  have hl : lv_has ls 4 [(0, .ref h), (1, .int (nI i)), (2, .long v)] := hl
  have hl9 : (Cond.fieldLink RX2 9 "InertialReference$Calibration" "sums" "[J").before #[Value.ref h, Value.int (nI i), Value.long v] s = true := zw hts 1 rfl
  have hinX2 : ∀ w ∈ u_ws RX2 TX2 3, w ∈ wsX2_add := fun w h => List.mem_cons_of_mem _ (List.mem_append_right _ h)
  refine lv_aload_n hx hb dX2_add_0 rfl (lv_at hl 0 rfl) ?_
  refine z_calli0 (wc := [(h, .inr (2, [.ref a0, .int tk, .int lf]))]) (wr := [(a0, zaJ k 3 fS)]) (va_runV (As := []) (rest := []) ⟨hx, hb, hml, hown, hts⟩ (c_X2_isRunning l D k s.heap.size h a0 tk lf) (cwV 0 hts gX2_add_X2_isRunning rfl rfl rfl (by decide +kernel) ⟨Nat.le_of_ble_eq_true rfl, Nat.le_of_ble_eq_true rfl⟩) (z_preV (wc := [(h, .inr (2, [.ref a0, .int tk, .int lf]))]) 0 2 hP hD hK [0] rfl rfl rfl rfl zb0 zp0) rfl rfl hl.1 rfl (lv_room (Nat.le_of_ble_eq_true rfl)) dX2_add_1 ⟨Nat.zero_le _, Nat.zero_le _⟩) hP hD hS hA [0] [1] rfl rfl rfl (by decide) (fun w H locs hF hP hD hS => ?_)
  subst hF
  have hP : va_P D vwCl [(a0, zaJ k 3 fS), (h, .inr (2, [.ref a0, .int tk, .int lf]))] H := hP
  have hD : va_D A [(a0, zaJ k 3 fS), (h, .inr (2, [.ref a0, .int tk, .int lf]))] := hD
  refine lv_if_eq (tgt := 24) hx hb dX2_add_4 (by decide) (fun c_1 => ?_) (fun c_1 => ?_)
  · skip
    have c_1 := zb_e c_1
    have hP := z_congJ hP 0 rfl (g := caddf (run0 lf) fS i v) (zall3 (by (rw [c_1]; rfl)) (by (rw [c_1]; rfl)) (by (rw [c_1]; rfl))) (ws' := [(a0, zaJ k 3 (caddf (run0 lf) fS i v)), (h, .inr (2, [.ref a0, .int tk, .int lf]))]) rfl
    have hD := z_congDJ hD 0 rfl (g := caddf (run0 lf) fS i v) (ws' := [(a0, zaJ k 3 (caddf (run0 lf) fS i v)), (h, .inr (2, [.ref a0, .int tk, .int lf]))]) rfl
    have hP9 := hP.sub (ws' := [(h, .inr (2, [.ref a0, .int tk, .int lf])), (a0, zaJ k 3 (caddf (run0 lf) fS i v))]) [1, 0] rfl
    have hD9 := hD.sub (ws' := [(h, .inr (2, [.ref a0, .int tk, .int lf])), (a0, zaJ k 3 (caddf (run0 lf) fS i v))]) [1, 0] (by decide) rfl
    exact W.vret hx hb hr (fun t9 ht9 hW9 => ⟨⟨[(h, .inr (2, [.ref a0, .int tk, .int lf])), (a0, zaJ k 3 (caddf (run0 lf) fS i v))], rfl, rfl, by rw [ht9]; exact hP9, hD9⟩, hS.F ht9⟩) hS.2.2 dX2_add_24
  · skip
    have c_1 := zb_n c_1
    refine lv_iload_n hx hb dX2_add_7 rfl (lv_at hl 1 rfl) ?_
    refine z_calli0 (wc := []) (wr := [(a0, zaJ k 3 fS), (h, .inr (2, [.ref a0, .int tk, .int lf]))]) (va_runS (As := [.int (nI i)]) (rest := []) ⟨hx, hb, hml, hown, hts⟩ (c_X5_isAxis l D k H.size (nI i)) (va_cwS 1 hts gX2_add_X5_isAxis rfl rfl rfl (by decide +kernel) ⟨Nat.le_of_ble_eq_true rfl, Nat.le_of_ble_eq_true rfl⟩) (z_preS (wc := []) hP hD hK [] rfl rfl zb0 zp0) rfl rfl hl.1 rfl (lv_room (Nat.le_of_ble_eq_true rfl)) dX2_add_8 ⟨Nat.zero_le _, Nat.zero_le _⟩) hP hD hS hA [] [0, 1] rfl rfl rfl (by decide) (fun w H locs hF hP hD hS => ?_)
    subst hF
    have hP : va_P D vwCl [(a0, zaJ k 3 fS), (h, .inr (2, [.ref a0, .int tk, .int lf]))] H := hP
    have hD : va_D A [(a0, zaJ k 3 fS), (h, .inr (2, [.ref a0, .int tk, .int lf]))] := hD
    refine lv_if_eq (tgt := 24) hx hb dX2_add_11 (by decide) (fun c => absurd c (by rw [zin_t (by rw [nI_toInt (by omega)]; omega)]; decide)) (fun c => ?_)
    refine lv_aload_n hx hb dX2_add_14 rfl (lv_at hl 0 rfl) ?_
    refine va_get (D := D) (ci := 2) (v := .ref a0) (C := RX2) (T := TX2) (N := 3) hx hb hts hinX2 hown hK hP 1 rfl rfl 0 (Nat.le_of_ble_eq_true rfl) hl9 (fun _ h9 => h9) rfl dX2_add_15 ?_
    refine lv_iload_n hx hb dX2_add_18 rfl (lv_at hl 1 rfl) ?_
    refine lv_dup2_11 hx hb dX2_add_19 rfl rfl ?_
    refine z_lald hx hb hK hP 0 rfl i (zxn (by omega)) (by omega) (v := fS i) rfl dX2_add_20 ?_
    refine lv_lload_n hx hb dX2_add_21 rfl (lv_at hl 2 rfl) ?_
    refine lv_ladd hx hb dX2_add_22 ?_
    refine z_last hx hb hK hP hD hS 0 rfl i (zxn (by omega)) (by omega) (ws' := [(a0, zaJ k 3 (vp_updL fS i ((fS i) + v))), (h, .inr (2, [.ref a0, .int tk, .int lf]))]) rfl dX2_add_23 (fun H locs hP hD hS => ?_)
    have hP := z_congJ hP 0 rfl (g := caddf (run0 lf) fS i v) (zall3 (by (rw [c_1]; rfl)) (by (rw [c_1]; rfl)) (by (rw [c_1]; rfl))) (ws' := [(a0, zaJ k 3 (caddf (run0 lf) fS i v)), (h, .inr (2, [.ref a0, .int tk, .int lf]))]) rfl
    have hD := z_congDJ hD 0 rfl (g := caddf (run0 lf) fS i v) (ws' := [(a0, zaJ k 3 (caddf (run0 lf) fS i v)), (h, .inr (2, [.ref a0, .int tk, .int lf]))]) rfl
    have hP9 := hP.sub (ws' := [(h, .inr (2, [.ref a0, .int tk, .int lf])), (a0, zaJ k 3 (caddf (run0 lf) fS i v))]) [1, 0] rfl
    have hD9 := hD.sub (ws' := [(h, .inr (2, [.ref a0, .int tk, .int lf])), (a0, zaJ k 3 (caddf (run0 lf) fS i v))]) [1, 0] (by decide) rfl
    exact W.vret hx hb hr (fun t9 ht9 hW9 => ⟨⟨[(h, .inr (2, [.ref a0, .int tk, .int lf])), (a0, zaJ k 3 (caddf (run0 lf) fS i v))], rfl, rfl, by rw [ht9]; exact hP9, hD9⟩, hS.F ht9⟩) hS.2.2 dX2_add_24
set_option maxHeartbeats 4000000 in
set_option maxRecDepth 100000 in
theorem c_X2_ends_no (l : Launch) (D : va_G) (k : Nat → ClassId) (sz : Nat) (h a0 : Nat) (tk lf : Int32) (hr3 : run0 lf = false) : Met l yX2_endsWithThisTick wsX2_endsWithThisTick ({ frames := 1, cells := 0, slots := 0, locals := 20 } : Room) (va_Pc [.ref h] (zPre D k [(h, .inr (2, [.ref a0, .int tk, .int lf]))] sz zX0)) (zQi D [(h, .inr (2, [.ref a0, .int tk, .int lf]))] sz 0 (fun w : va_W => w = [(h, .inr (2, [.ref a0, .int tk, .int lf]))])) 0 0 (va_A [(h, .inr (2, [.ref a0, .int tk, .int lf]))] sz) := by
  refine Met.ofW (cc := cX2_endsWithThisTick) (maxL := 1) (ret := (some .boolean)) (by decide) rfl ?_
  intro p e s m args below meth c s₁ B hml hv
  obtain ⟨rfl, hsz, hP, hK, hD0, hE⟩ := hv
  have hx := B.exec
  have hb := B.bytes
  have hr := B.returns
  have hts := atoms_spec (ws := wsX2_endsWithThisTick) B.pre
  have hown : s.vm.findClass RX2 = some m.cls := findClass_of_methodNamed B.named
  have hlocks := B.notSynchronized
  subst hsz
  have hD := hD0.self (sz := s.heap.size)
  delta zQi zB
  generalize hAe : va_A [(h, .inr (2, [.ref a0, .int tk, .int lf]))] s.heap.size = A at hD hE ⊢
  have hA : ∀ q : Nat, s.heap.size ≤ q → A q := fun q h => by rw [← hAe]; exact Or.inr h
  have hS : va_S A s.heap s.heap [] := va_S.rf
  have hl := lv_entry [.ref h] (n := 1) (Nat.le_of_ble_eq_true rfl)
  rw [lg_entry_eq]
  generalize (lg_sl [.ref h] ++ List.replicate (1 - (lg_sl [.ref h]).length) Slot.unset).toArray = ls at hl ⊢
  have hl : lv_has ls 1 [(0, .ref h)] := hl
  refine lv_aload_n hx hb dX2_endsWithThisTick_0 rfl (lv_at hl 0 rfl) ?_
  refine z_calli0 (wc := [(h, .inr (2, [.ref a0, .int tk, .int lf]))]) (wr := []) (va_runV (As := []) (rest := []) ⟨hx, hb, hml, hown, hts⟩ (c_X2_isRunning l D k s.heap.size h a0 tk lf) (cwV 0 hts gX2_endsWithThisTick_X2_isRunning rfl rfl rfl (by decide +kernel) ⟨Nat.le_of_ble_eq_true rfl, Nat.le_of_ble_eq_true rfl⟩) (z_preV (wc := [(h, .inr (2, [.ref a0, .int tk, .int lf]))]) 0 2 hP hD hK [0] rfl rfl rfl rfl zb0 zp0) rfl rfl hl.1 rfl (lv_room (Nat.le_of_ble_eq_true rfl)) dX2_endsWithThisTick_1 ⟨Nat.zero_le _, Nat.zero_le _⟩) hP hD hS hA [0] [] rfl rfl rfl (by decide) (fun w H locs hF hP hD hS => ?_)
  subst hF
  have hP : va_P D vwCl [(h, .inr (2, [.ref a0, .int tk, .int lf]))] H := hP
  have hD : va_D A [(h, .inr (2, [.ref a0, .int tk, .int lf]))] := hD
  refine lv_if_ne (tgt := 9) hx hb dX2_endsWithThisTick_4 (by decide) (fun c => absurd c (by rw [hr3]; decide)) (fun c => ?_)
  refine lv_iconst (v := 0) hx hb dX2_endsWithThisTick_7 (by decide) ?_
  have hP9 := hP.sub (ws' := [(h, .inr (2, [.ref a0, .int tk, .int lf]))]) [0] rfl
  have hD9 := hD.sub (ws' := [(h, .inr (2, [.ref a0, .int tk, .int lf]))]) [0] (by decide) rfl
  exact W.zret (v := 0) hx hb hr rfl (fun t9 ht9 hW9 => ⟨⟨0, [(h, .inr (2, [.ref a0, .int tk, .int lf]))], rfl, ⟨rfl, rfl⟩, by rw [ht9]; exact hP9, hD9⟩, hS.F ht9⟩) hS.2.2 dX2_endsWithThisTick_8
set_option maxHeartbeats 4000000 in
set_option maxRecDepth 100000 in
theorem c_X2_ends_go (l : Launch) (D : va_G) (k : Nat → ClassId) (sz : Nat) (h a0 : Nat) (tk lf : Int32) (hr3 : run0 lf = true) : Met l yX2_endsWithThisTick wsX2_endsWithThisTick ({ frames := 1, cells := 0, slots := 0, locals := 20 } : Room) (va_Pc [.ref h] (zPre D k [(h, .inr (2, [.ref a0, .int tk, .int lf]))] sz zX0)) (zQi D [(h, .inr (2, [.ref a0, .int tk, .int lf]))] sz (zb (decide (lf - 1 = 0))) (fun w : va_W => w = [(h, .inr (2, [.ref a0, .int tk, .int (lf - 1)]))])) 0 0 (va_A [(h, .inr (2, [.ref a0, .int tk, .int lf]))] sz) := by
  refine Met.ofW (cc := cX2_endsWithThisTick) (maxL := 1) (ret := (some .boolean)) (by decide) rfl ?_
  intro p e s m args below meth c s₁ B hml hv
  obtain ⟨rfl, hsz, hP, hK, hD0, hE⟩ := hv
  have hx := B.exec
  have hb := B.bytes
  have hr := B.returns
  have hts := atoms_spec (ws := wsX2_endsWithThisTick) B.pre
  have hown : s.vm.findClass RX2 = some m.cls := findClass_of_methodNamed B.named
  have hlocks := B.notSynchronized
  subst hsz
  have hD := hD0.self (sz := s.heap.size)
  delta zQi zB
  generalize hAe : va_A [(h, .inr (2, [.ref a0, .int tk, .int lf]))] s.heap.size = A at hD hE ⊢
  have hA : ∀ q : Nat, s.heap.size ≤ q → A q := fun q h => by rw [← hAe]; exact Or.inr h
  have hS : va_S A s.heap s.heap [] := va_S.rf
  have hl := lv_entry [.ref h] (n := 1) (Nat.le_of_ble_eq_true rfl)
  rw [lg_entry_eq]
  generalize (lg_sl [.ref h] ++ List.replicate (1 - (lg_sl [.ref h]).length) Slot.unset).toArray = ls at hl ⊢
  have hl : lv_has ls 1 [(0, .ref h)] := hl
  have hl15 : (Cond.fieldLink RX2 15 "InertialReference$Calibration" "ticksLeft" "I").before #[Value.ref h] s = true := zw hts 1 rfl
  have hinX2 : ∀ w ∈ u_ws RX2 TX2 3, w ∈ wsX2_endsWithThisTick := fun w h => List.mem_cons_of_mem _ (List.mem_append_right _ h)
  refine lv_aload_n hx hb dX2_endsWithThisTick_0 rfl (lv_at hl 0 rfl) ?_
  refine z_calli0 (wc := [(h, .inr (2, [.ref a0, .int tk, .int lf]))]) (wr := []) (va_runV (As := []) (rest := []) ⟨hx, hb, hml, hown, hts⟩ (c_X2_isRunning l D k s.heap.size h a0 tk lf) (cwV 0 hts gX2_endsWithThisTick_X2_isRunning rfl rfl rfl (by decide +kernel) ⟨Nat.le_of_ble_eq_true rfl, Nat.le_of_ble_eq_true rfl⟩) (z_preV (wc := [(h, .inr (2, [.ref a0, .int tk, .int lf]))]) 0 2 hP hD hK [0] rfl rfl rfl rfl zb0 zp0) rfl rfl hl.1 rfl (lv_room (Nat.le_of_ble_eq_true rfl)) dX2_endsWithThisTick_1 ⟨Nat.zero_le _, Nat.zero_le _⟩) hP hD hS hA [0] [] rfl rfl rfl (by decide) (fun w H locs hF hP hD hS => ?_)
  subst hF
  have hP : va_P D vwCl [(h, .inr (2, [.ref a0, .int tk, .int lf]))] H := hP
  have hD : va_D A [(h, .inr (2, [.ref a0, .int tk, .int lf]))] := hD
  refine lv_if_ne (tgt := 9) hx hb dX2_endsWithThisTick_4 (by decide) (fun c => ?_) (fun c => absurd c (by rw [hr3]; decide))
  refine lv_aload_n hx hb dX2_endsWithThisTick_9 rfl (lv_at hl 0 rfl) ?_
  refine lv_dup hx hb dX2_endsWithThisTick_10 rfl ?_
  refine va_get (D := D) (ci := 2) (v := .int lf) (C := RX2) (T := TX2) (N := 3) hx hb hts hinX2 hown hK hP 0 rfl rfl 2 (Nat.le_of_ble_eq_true rfl) hl15 (fun _ h9 => h9) rfl dX2_endsWithThisTick_11 ?_
  refine lv_iconst (v := 1) hx hb dX2_endsWithThisTick_14 (by decide) ?_
  refine lv_isub hx hb dX2_endsWithThisTick_15 ?_
  refine va_put (D := D) (ci := 2) (v := .int (lf - 1)) (ty := .int) (C := RX2) (T := TX2) (N := 3) hx hb hts hinX2 tyX2 tyX2_ok nmX2 hown hK hP hD hS 0 rfl rfl 2 (Nat.le_of_ble_eq_true rfl) hl15 (fun _ h9 => h9) rfl  (by decide +kernel) rfl rfl (Nat.le_of_ble_eq_true rfl) dX2_endsWithThisTick_16 (fun H locs hP hD hS => ?_)
  have hP : va_P D vwCl [(h, .inr (2, [.ref a0, .int tk, .int (lf - 1)]))] H := hP
  have hD : va_D A [(h, .inr (2, [.ref a0, .int tk, .int (lf - 1)]))] := hD
  refine lv_aload_n hx hb dX2_endsWithThisTick_19 rfl (lv_at hl 0 rfl) ?_
  refine va_get (D := D) (ci := 2) (v := .int (lf - 1)) (C := RX2) (T := TX2) (N := 3) hx hb hts hinX2 hown hK hP 0 rfl rfl 2 (Nat.le_of_ble_eq_true rfl) hl15 (fun _ h9 => h9) rfl dX2_endsWithThisTick_20 ?_
  refine lv_if_ne (tgt := 30) hx hb dX2_endsWithThisTick_23 (by decide) (fun c_1 => ?_) (fun c_1 => ?_)
  · skip
    refine lv_iconst (v := 0) hx hb dX2_endsWithThisTick_30 (by decide) ?_
    have hP9 := hP.sub (ws' := [(h, .inr (2, [.ref a0, .int tk, .int (lf - 1)]))]) [0] rfl
    have hD9 := hD.sub (ws' := [(h, .inr (2, [.ref a0, .int tk, .int (lf - 1)]))]) [0] (by decide) rfl
    exact W.zret (v := 0) hx hb hr rfl (fun t9 ht9 hW9 => ⟨⟨0, [(h, .inr (2, [.ref a0, .int tk, .int (lf - 1)]))], rfl, ⟨by (exact zb_f (decide_eq_false c_1)), rfl⟩, by rw [ht9]; exact hP9, hD9⟩, hS.F ht9⟩) hS.2.2 dX2_endsWithThisTick_31
  · skip
    refine lv_iconst (v := 1) hx hb dX2_endsWithThisTick_26 (by decide) ?_
    refine lv_goto (tgt := 31) hx hb dX2_endsWithThisTick_27 (by decide) ?_
    have hP9 := hP.sub (ws' := [(h, .inr (2, [.ref a0, .int tk, .int (lf - 1)]))]) [0] rfl
    have hD9 := hD.sub (ws' := [(h, .inr (2, [.ref a0, .int tk, .int (lf - 1)]))]) [0] (by decide) rfl
    exact W.zret (v := 1) hx hb hr rfl (fun t9 ht9 hW9 => ⟨⟨1, [(h, .inr (2, [.ref a0, .int tk, .int (lf - 1)]))], rfl, ⟨by (exact zb_t (decide_eq_true c_1)), rfl⟩, by rw [ht9]; exact hP9, hD9⟩, hS.F ht9⟩) hS.2.2 dX2_endsWithThisTick_31
set_option maxHeartbeats 4000000 in
set_option maxRecDepth 100000 in
theorem c_X2_mean (l : Launch) (D : va_G) (k : Nat → ClassId) (sz : Nat) (h a0 : Nat) (fS : Nat → Int64) (tk lf : Int32) (i : Nat) (hi : i < 3) (ht : 0 < tk.toInt) : Met l yX2_mean wsX2_mean ({ frames := 1, cells := 0, slots := 0, locals := 25 } : Room) (va_Pc [.ref h, .int (nI i)] (zPre D k [(h, .inr (2, [.ref a0, .int tk, .int lf])), (a0, zaJ k 3 fS)] sz zX0)) (zQl D [(h, .inr (2, [.ref a0, .int tk, .int lf])), (a0, zaJ k 3 fS)] sz (fdiv (fS i) tk.toInt64) (fun w : va_W => w = [(h, .inr (2, [.ref a0, .int tk, .int lf])), (a0, zaJ k 3 fS)])) 0 0 (va_A [(h, .inr (2, [.ref a0, .int tk, .int lf])), (a0, zaJ k 3 fS)] sz) := by
  refine Met.ofW (cc := cX2_mean) (maxL := 2) (ret := (some .long)) (by decide) rfl ?_
  intro p e s m args below meth c s₁ B hml hv
  obtain ⟨rfl, hsz, hP, hK, hD0, hE⟩ := hv
  have hx := B.exec
  have hb := B.bytes
  have hr := B.returns
  have hts := atoms_spec (ws := wsX2_mean) B.pre
  have hown : s.vm.findClass RX2 = some m.cls := findClass_of_methodNamed B.named
  have hlocks := B.notSynchronized
  subst hsz
  have hD := hD0.self (sz := s.heap.size)
  delta zQl zB
  generalize hAe : va_A [(h, .inr (2, [.ref a0, .int tk, .int lf])), (a0, zaJ k 3 fS)] s.heap.size = A at hD hE ⊢
  have hA : ∀ q : Nat, s.heap.size ≤ q → A q := fun q h => by rw [← hAe]; exact Or.inr h
  have hS : va_S A s.heap s.heap [] := va_S.rf
  have hl := lv_entry [.ref h, .int (nI i)] (n := 2) (Nat.le_of_ble_eq_true rfl)
  rw [lg_entry_eq]
  generalize (lg_sl [.ref h, .int (nI i)] ++ List.replicate (2 - (lg_sl [.ref h, .int (nI i)]).length) Slot.unset).toArray = ls at hl ⊢
  have hl : lv_has ls 2 [(0, .ref h), (1, .int (nI i))] := hl
  have hl25 : (Cond.fieldLink RX2 25 "InertialReference$Calibration" "ticks" "I").before #[Value.ref h, Value.int (nI i)] s = true := zw hts 1 rfl
  have hinX2 : ∀ w ∈ u_ws RX2 TX2 3, w ∈ wsX2_mean := fun w h => List.mem_cons_of_mem _ (List.mem_append_right _ h)
  have hl9 : (Cond.fieldLink RX2 9 "InertialReference$Calibration" "sums" "[J").before #[Value.ref h, Value.int (nI i)] s = true := zw hts 2 rfl
  refine lv_aload_n hx hb dX2_mean_0 rfl (lv_at hl 0 rfl) ?_
  refine va_get (D := D) (ci := 2) (v := .int tk) (C := RX2) (T := TX2) (N := 3) hx hb hts hinX2 hown hK hP 0 rfl rfl 1 (Nat.le_of_ble_eq_true rfl) hl25 (fun _ h9 => h9) rfl dX2_mean_1 ?_
  refine lv_if_le (tgt := 14) hx hb dX2_mean_4 (by decide) (fun c => absurd c (fun h => absurd (zle h rfl (by decide : (0 : Int32).toInt = 0)) (by omega))) (fun c => ?_)
  refine lv_iload_n hx hb dX2_mean_7 rfl (lv_at hl 1 rfl) ?_
  refine z_calli0 (wc := []) (wr := [(h, .inr (2, [.ref a0, .int tk, .int lf])), (a0, zaJ k 3 fS)]) (va_runS (As := [.int (nI i)]) (rest := []) ⟨hx, hb, hml, hown, hts⟩ (c_X5_isAxis l D k s.heap.size (nI i)) (va_cwS 1 hts gX2_mean_X5_isAxis rfl rfl rfl (by decide +kernel) ⟨Nat.le_of_ble_eq_true rfl, Nat.le_of_ble_eq_true rfl⟩) (z_preS (wc := []) hP hD hK [] rfl rfl zb0 zp0) rfl rfl hl.1 rfl (lv_room (Nat.le_of_ble_eq_true rfl)) dX2_mean_8 ⟨Nat.zero_le _, Nat.zero_le _⟩) hP hD hS hA [] [0, 1] rfl rfl rfl (by decide) (fun w H locs hF hP hD hS => ?_)
  subst hF
  have hP : va_P D vwCl [(h, .inr (2, [.ref a0, .int tk, .int lf])), (a0, zaJ k 3 fS)] H := hP
  have hD : va_D A [(h, .inr (2, [.ref a0, .int tk, .int lf])), (a0, zaJ k 3 fS)] := hD
  refine lv_if_ne (tgt := 16) hx hb dX2_mean_11 (by decide) (fun c => ?_) (fun c => absurd c (by rw [zin_t (by rw [nI_toInt (by omega)]; omega)]; decide))
  refine lv_aload_n hx hb dX2_mean_16 rfl (lv_at hl 0 rfl) ?_
  refine va_get (D := D) (ci := 2) (v := .ref a0) (C := RX2) (T := TX2) (N := 3) hx hb hts hinX2 hown hK hP 0 rfl rfl 0 (Nat.le_of_ble_eq_true rfl) hl9 (fun _ h9 => h9) rfl dX2_mean_17 ?_
  refine lv_iload_n hx hb dX2_mean_20 rfl (lv_at hl 1 rfl) ?_
  refine z_lald hx hb hK hP 1 rfl i (zxn (by omega)) (by omega) (v := fS i) rfl dX2_mean_21 ?_
  refine lv_aload_n hx hb dX2_mean_22 rfl (lv_at hl 0 rfl) ?_
  refine va_get (D := D) (ci := 2) (v := .int tk) (C := RX2) (T := TX2) (N := 3) hx hb hts hinX2 hown hK hP 0 rfl rfl 1 (Nat.le_of_ble_eq_true rfl) hl25 (fun _ h9 => h9) rfl dX2_mean_23 ?_
  refine lv_i2l (v := tk.toInt64) hx hb dX2_mean_26 rfl ?_
  refine z_calll0 (wc := []) (wr := [(h, .inr (2, [.ref a0, .int tk, .int lf])), (a0, zaJ k 3 fS)]) (va_runS (As := [.long (fS i), .long tk.toInt64]) (rest := []) ⟨hx, hb, hml, hown, hts⟩ (c_J9_floorDiv_f86c9 l D k H.size (fS i) tk.toInt64 (ne0_long ht)) (va_cwS 2 hts gX2_mean_J9_floorDiv_f86c9 rfl rfl rfl (by decide +kernel) ⟨Nat.le_of_ble_eq_true rfl, Nat.le_of_ble_eq_true rfl⟩) (z_preS (wc := []) hP hD hK [] rfl rfl zb0 zp0) rfl rfl hl.1 rfl (lv_room (Nat.le_of_ble_eq_true rfl)) dX2_mean_27 ⟨Nat.zero_le _, Nat.zero_le _⟩) hP hD hS hA [] [0, 1] rfl rfl rfl (by decide) (fun w H locs hF hP hD hS => ?_)
  subst hF
  have hP : va_P D vwCl [(h, .inr (2, [.ref a0, .int tk, .int lf])), (a0, zaJ k 3 fS)] H := hP
  have hD : va_D A [(h, .inr (2, [.ref a0, .int tk, .int lf])), (a0, zaJ k 3 fS)] := hD
  have hP9 := hP.sub (ws' := [(h, .inr (2, [.ref a0, .int tk, .int lf])), (a0, zaJ k 3 fS)]) [0, 1] rfl
  have hD9 := hD.sub (ws' := [(h, .inr (2, [.ref a0, .int tk, .int lf])), (a0, zaJ k 3 fS)]) [0, 1] (by decide) rfl
  exact W.lret (v := fdiv (fS i) tk.toInt64) hx hb hr (fun t9 ht9 hW9 => ⟨⟨(fdiv (fS i) tk.toInt64), [(h, .inr (2, [.ref a0, .int tk, .int lf])), (a0, zaJ k 3 fS)], rfl, ⟨rfl, rfl⟩, by rw [ht9]; exact hP9, hD9⟩, hS.F ht9⟩) hS.2.2 dX2_mean_30
