set_option maxHeartbeats 4000000 in
set_option maxRecDepth 100000 in
theorem c_X9_placeOf_yes (l : Launch) (D : va_G) (k : Nat → ClassId) (sz : Nat) (o m0 m1 m2 m3 m4 m5 m6 m7 m8 m9 m10 m11 m12 m18 m19 m21 m22 m23 m24 m25 m31 m32 m33 m34 m35 m36 m37 m39 m40 m42 : Nat) (u : zS) (num : Int32) (i : Nat)  (hn : u.2.2.1 1 ≤ 30) (hi : i < u.2.2.1 1) (hi2 : u.2.1 10 i = num) (hi3 : ∀ j, j < i → ¬ u.2.1 10 j = num) : Met l yX9_placeOf wsX9_placeOf ({ frames := 0, cells := 0, slots := 0, locals := 0 } : Room) (va_Pc [.ref o, .int num] (zPre D k [(o, .inr (8, [.ref m0, .ref m1, .ref m2, .ref m3, .ref m4, .ref m5, .ref m6, .ref m7, .ref m8, .ref m9, .ref m10, .ref m11, .ref m12, .long (u.1 8 0), .long (u.1 8 2), .int (u.2.1 11 0), .int (u.2.1 11 1), .int (u.2.1 11 2), .ref m18, .ref m19, .int (nI (u.2.2.1 0)), .ref m21, .ref m22, .ref m23, .ref m24, .ref m25, .int (u.2.1 11 3), .int (u.2.1 11 4), .int (u.2.1 11 5), .int (u.2.1 11 6), .int (u.2.1 11 7), .ref m31, .ref m32, .ref m33, .ref m34, .ref m35, .ref m36, .ref m37, .long (u.1 9 0), .ref m39, .ref m40, .int (nI (u.2.2.1 1)), .ref m42])), (m39, zaI k 30 (u.2.1 10))] sz zX0)) (zQi D [(o, .inr (8, [.ref m0, .ref m1, .ref m2, .ref m3, .ref m4, .ref m5, .ref m6, .ref m7, .ref m8, .ref m9, .ref m10, .ref m11, .ref m12, .long (u.1 8 0), .long (u.1 8 2), .int (u.2.1 11 0), .int (u.2.1 11 1), .int (u.2.1 11 2), .ref m18, .ref m19, .int (nI (u.2.2.1 0)), .ref m21, .ref m22, .ref m23, .ref m24, .ref m25, .int (u.2.1 11 3), .int (u.2.1 11 4), .int (u.2.1 11 5), .int (u.2.1 11 6), .int (u.2.1 11 7), .ref m31, .ref m32, .ref m33, .ref m34, .ref m35, .ref m36, .ref m37, .long (u.1 9 0), .ref m39, .ref m40, .int (nI (u.2.2.1 1)), .ref m42])), (m39, zaI k 30 (u.2.1 10))] sz (nI i) (fun w : va_W => w = [(o, .inr (8, [.ref m0, .ref m1, .ref m2, .ref m3, .ref m4, .ref m5, .ref m6, .ref m7, .ref m8, .ref m9, .ref m10, .ref m11, .ref m12, .long (u.1 8 0), .long (u.1 8 2), .int (u.2.1 11 0), .int (u.2.1 11 1), .int (u.2.1 11 2), .ref m18, .ref m19, .int (nI (u.2.2.1 0)), .ref m21, .ref m22, .ref m23, .ref m24, .ref m25, .int (u.2.1 11 3), .int (u.2.1 11 4), .int (u.2.1 11 5), .int (u.2.1 11 6), .int (u.2.1 11 7), .ref m31, .ref m32, .ref m33, .ref m34, .ref m35, .ref m36, .ref m37, .long (u.1 9 0), .ref m39, .ref m40, .int (nI (u.2.2.1 1)), .ref m42])), (m39, zaI k 30 (u.2.1 10))])) 0 0 (va_A [(o, .inr (8, [.ref m0, .ref m1, .ref m2, .ref m3, .ref m4, .ref m5, .ref m6, .ref m7, .ref m8, .ref m9, .ref m10, .ref m11, .ref m12, .long (u.1 8 0), .long (u.1 8 2), .int (u.2.1 11 0), .int (u.2.1 11 1), .int (u.2.1 11 2), .ref m18, .ref m19, .int (nI (u.2.2.1 0)), .ref m21, .ref m22, .ref m23, .ref m24, .ref m25, .int (u.2.1 11 3), .int (u.2.1 11 4), .int (u.2.1 11 5), .int (u.2.1 11 6), .int (u.2.1 11 7), .ref m31, .ref m32, .ref m33, .ref m34, .ref m35, .ref m36, .ref m37, .long (u.1 9 0), .ref m39, .ref m40, .int (nI (u.2.2.1 1)), .ref m42])), (m39, zaI k 30 (u.2.1 10))] sz) := by
  refine Met.ofW (cc := cX9_placeOf) (maxL := 3) (ret := (some .int)) (by decide) rfl ?_
  intro p e s m args below meth c s₁ B hml hv
  obtain ⟨rfl, hsz, hP, hK, hD0, hE⟩ := hv
  have hx := B.exec
  have hb := B.bytes
  have hr := B.returns
  have hts := atoms_spec (ws := wsX9_placeOf) B.pre
  have hown : s.vm.findClass RX9 = some m.cls := findClass_of_methodNamed B.named
  have hlocks := B.notSynchronized
  subst hsz
  have hD := hD0.self (sz := s.heap.size)
  delta zQi zB
  generalize hAe : va_A [(o, .inr (8, [.ref m0, .ref m1, .ref m2, .ref m3, .ref m4, .ref m5, .ref m6, .ref m7, .ref m8, .ref m9, .ref m10, .ref m11, .ref m12, .long (u.1 8 0), .long (u.1 8 2), .int (u.2.1 11 0), .int (u.2.1 11 1), .int (u.2.1 11 2), .ref m18, .ref m19, .int (nI (u.2.2.1 0)), .ref m21, .ref m22, .ref m23, .ref m24, .ref m25, .int (u.2.1 11 3), .int (u.2.1 11 4), .int (u.2.1 11 5), .int (u.2.1 11 6), .int (u.2.1 11 7), .ref m31, .ref m32, .ref m33, .ref m34, .ref m35, .ref m36, .ref m37, .long (u.1 9 0), .ref m39, .ref m40, .int (nI (u.2.2.1 1)), .ref m42])), (m39, zaI k 30 (u.2.1 10))] s.heap.size = A at hD hE ⊢
  have hA : ∀ q : Nat, s.heap.size ≤ q → A q := fun q h => by rw [← hAe]; exact Or.inr h
  have hS : va_S A s.heap s.heap [] := va_S.rf
  have hl := lv_entry [.ref o, .int num] (n := 3) (Nat.le_of_ble_eq_true rfl)
  rw [lg_entry_eq]
  generalize (lg_sl [.ref o, .int num] ++ List.replicate (3 - (lg_sl [.ref o, .int num]).length) Slot.unset).toArray = ls at hl ⊢
  have hl : lv_has ls 3 [(0, .ref o), (1, .int num)] := hl
  have hl177 : (Cond.fieldLink RX9 177 "InertialReferenceModel" "stored" "I").before #[Value.ref o, Value.int num] s = true := zw hts 1 rfl
  have hinX9 : ∀ w ∈ u_ws RX9 TX9 43, w ∈ wsX9_placeOf := fun w h => List.mem_cons_of_mem _ (List.mem_append_right _ h)
  have hl93 : (Cond.fieldLink RX9 93 "InertialReferenceModel" "storedNumber" "[I").before #[Value.ref o, Value.int num] s = true := zw hts 2 rfl
  refine lv_iconst (v := 0) hx hb dX9_placeOf_0 (by decide) ?_
  refine lv_istore_n (lv' := [(2, .int 0), (0, .ref o), (1, .int num)]) hx hb dX9_placeOf_1 rfl hl (by decide) rfl (fun ls hl => ?_)
  have hl : lv_has ls 3 [(2, .int (nI 0)), (0, .ref o), (1, .int num)] := hl
  refine z_loop (St := Nat) (fun st9 => st9 ≤ i) (fun st9 => [(o, .inr (8, [.ref m0, .ref m1, .ref m2, .ref m3, .ref m4, .ref m5, .ref m6, .ref m7, .ref m8, .ref m9, .ref m10, .ref m11, .ref m12, .long (u.1 8 0), .long (u.1 8 2), .int (u.2.1 11 0), .int (u.2.1 11 1), .int (u.2.1 11 2), .ref m18, .ref m19, .int (nI (u.2.2.1 0)), .ref m21, .ref m22, .ref m23, .ref m24, .ref m25, .int (u.2.1 11 3), .int (u.2.1 11 4), .int (u.2.1 11 5), .int (u.2.1 11 6), .int (u.2.1 11 7), .ref m31, .ref m32, .ref m33, .ref m34, .ref m35, .ref m36, .ref m37, .long (u.1 9 0), .ref m39, .ref m40, .int (nI (u.2.2.1 1)), .ref m42])), (m39, zaI k 30 (u.2.1 10))]) (fun st9 => [(0, .ref o), (1, .int num), (2, .int (nI st9))]) (fun st9 => u.2.2.1 1 - st9) 0 (Nat.zero_le _) hP hD hS (lv_sub hl [1, 2, 0] rfl) ?_
  intro j hj_2 H locs ls hP hD hS hl ih_2
  have hj_2 : j ≤ i := hj_2
  have hP : va_P D vwCl [(o, .inr (8, [.ref m0, .ref m1, .ref m2, .ref m3, .ref m4, .ref m5, .ref m6, .ref m7, .ref m8, .ref m9, .ref m10, .ref m11, .ref m12, .long (u.1 8 0), .long (u.1 8 2), .int (u.2.1 11 0), .int (u.2.1 11 1), .int (u.2.1 11 2), .ref m18, .ref m19, .int (nI (u.2.2.1 0)), .ref m21, .ref m22, .ref m23, .ref m24, .ref m25, .int (u.2.1 11 3), .int (u.2.1 11 4), .int (u.2.1 11 5), .int (u.2.1 11 6), .int (u.2.1 11 7), .ref m31, .ref m32, .ref m33, .ref m34, .ref m35, .ref m36, .ref m37, .long (u.1 9 0), .ref m39, .ref m40, .int (nI (u.2.2.1 1)), .ref m42])), (m39, zaI k 30 (u.2.1 10))] H := hP
  have hD : va_D A [(o, .inr (8, [.ref m0, .ref m1, .ref m2, .ref m3, .ref m4, .ref m5, .ref m6, .ref m7, .ref m8, .ref m9, .ref m10, .ref m11, .ref m12, .long (u.1 8 0), .long (u.1 8 2), .int (u.2.1 11 0), .int (u.2.1 11 1), .int (u.2.1 11 2), .ref m18, .ref m19, .int (nI (u.2.2.1 0)), .ref m21, .ref m22, .ref m23, .ref m24, .ref m25, .int (u.2.1 11 3), .int (u.2.1 11 4), .int (u.2.1 11 5), .int (u.2.1 11 6), .int (u.2.1 11 7), .ref m31, .ref m32, .ref m33, .ref m34, .ref m35, .ref m36, .ref m37, .long (u.1 9 0), .ref m39, .ref m40, .int (nI (u.2.2.1 1)), .ref m42])), (m39, zaI k 30 (u.2.1 10))] := hD
  have hl : lv_has ls 3 [(0, .ref o), (1, .int num), (2, .int (nI j))] := hl
  refine lv_iload_n hx hb dX9_placeOf_2 rfl (lv_at hl 2 rfl) ?_
  refine lv_aload_n hx hb dX9_placeOf_3 rfl (lv_at hl 0 rfl) ?_
  refine va_get (D := D) (ci := 8) (v := .int (nI (u.2.2.1 1))) (C := RX9) (T := TX9) (N := 43) hx hb hts hinX9 hown hK hP 0 rfl rfl 41 (Nat.le_of_ble_eq_true rfl) hl177 (fun _ h9 => h9) rfl dX9_placeOf_4 ?_
  refine lv_icmp_ge (tgt := 28) hx hb dX9_placeOf_7 (by decide) (fun c_1 => ?_) (fun c_1 => ?_)
  · skip
    have c_1 : ((u.2.2.1 1 : Nat) : Int) ≤ ((j : Nat) : Int) := zle c_1 (nI_toInt (by omega)) (nI_toInt (by omega))
    omega
  · skip
    have c_1 : ((j : Nat) : Int) < ((u.2.2.1 1 : Nat) : Int) := znle c_1 (nI_toInt (by omega)) (nI_toInt (by omega))
    refine lv_aload_n hx hb dX9_placeOf_10 rfl (lv_at hl 0 rfl) ?_
    refine va_get (D := D) (ci := 8) (v := .ref m39) (C := RX9) (T := TX9) (N := 43) hx hb hts hinX9 hown hK hP 0 rfl rfl 39 (Nat.le_of_ble_eq_true rfl) hl93 (fun _ h9 => h9) rfl dX9_placeOf_11 ?_
    refine lv_iload_n hx hb dX9_placeOf_14 rfl (lv_at hl 2 rfl) ?_
    refine z_iald hx hb hK hP 1 rfl j (zxn (by omega)) (by omega) (v := (u.2.1 10) j) rfl dX9_placeOf_15 ?_
    refine lv_iload_n hx hb dX9_placeOf_16 rfl (lv_at hl 1 rfl) ?_
    refine lv_icmp_ne (tgt := 22) hx hb dX9_placeOf_17 (by decide) (fun c_2 => ?_) (fun c_2 => ?_)
    · skip
      refine lv_iinc (v := nI (j + 1)) (lv' := [(2, .int (nI (j + 1))), (0, .ref o), (1, .int num)]) hx hb dX9_placeOf_22 hl (k := 2) rfl (nI_1 _) (by decide) rfl (fun ls hl => ?_)
      refine lv_goto (tgt := 2) hx hb dX9_placeOf_25 (by decide) ?_
      exact ih_2 (j + 1) (by have : j ≠ i := fun q => c_2 (q ▸ hi2); omega) (by omega) _ _ _ hP hD hS (lv_sub hl [1, 2, 0] rfl)
    · skip
      refine lv_iload_n hx hb dX9_placeOf_20 rfl (lv_at hl 2 rfl) ?_
      have hP9 := hP.sub (ws' := [(o, .inr (8, [.ref m0, .ref m1, .ref m2, .ref m3, .ref m4, .ref m5, .ref m6, .ref m7, .ref m8, .ref m9, .ref m10, .ref m11, .ref m12, .long (u.1 8 0), .long (u.1 8 2), .int (u.2.1 11 0), .int (u.2.1 11 1), .int (u.2.1 11 2), .ref m18, .ref m19, .int (nI (u.2.2.1 0)), .ref m21, .ref m22, .ref m23, .ref m24, .ref m25, .int (u.2.1 11 3), .int (u.2.1 11 4), .int (u.2.1 11 5), .int (u.2.1 11 6), .int (u.2.1 11 7), .ref m31, .ref m32, .ref m33, .ref m34, .ref m35, .ref m36, .ref m37, .long (u.1 9 0), .ref m39, .ref m40, .int (nI (u.2.2.1 1)), .ref m42])), (m39, zaI k 30 (u.2.1 10))]) [0, 1] rfl
      have hD9 := hD.sub (ws' := [(o, .inr (8, [.ref m0, .ref m1, .ref m2, .ref m3, .ref m4, .ref m5, .ref m6, .ref m7, .ref m8, .ref m9, .ref m10, .ref m11, .ref m12, .long (u.1 8 0), .long (u.1 8 2), .int (u.2.1 11 0), .int (u.2.1 11 1), .int (u.2.1 11 2), .ref m18, .ref m19, .int (nI (u.2.2.1 0)), .ref m21, .ref m22, .ref m23, .ref m24, .ref m25, .int (u.2.1 11 3), .int (u.2.1 11 4), .int (u.2.1 11 5), .int (u.2.1 11 6), .int (u.2.1 11 7), .ref m31, .ref m32, .ref m33, .ref m34, .ref m35, .ref m36, .ref m37, .long (u.1 9 0), .ref m39, .ref m40, .int (nI (u.2.2.1 1)), .ref m42])), (m39, zaI k 30 (u.2.1 10))]) [0, 1] (by decide) rfl
      exact W.iret (v := nI j) hx hb hr (fun t9 ht9 hW9 => ⟨⟨(nI j), [(o, .inr (8, [.ref m0, .ref m1, .ref m2, .ref m3, .ref m4, .ref m5, .ref m6, .ref m7, .ref m8, .ref m9, .ref m10, .ref m11, .ref m12, .long (u.1 8 0), .long (u.1 8 2), .int (u.2.1 11 0), .int (u.2.1 11 1), .int (u.2.1 11 2), .ref m18, .ref m19, .int (nI (u.2.2.1 0)), .ref m21, .ref m22, .ref m23, .ref m24, .ref m25, .int (u.2.1 11 3), .int (u.2.1 11 4), .int (u.2.1 11 5), .int (u.2.1 11 6), .int (u.2.1 11 7), .ref m31, .ref m32, .ref m33, .ref m34, .ref m35, .ref m36, .ref m37, .long (u.1 9 0), .ref m39, .ref m40, .int (nI (u.2.2.1 1)), .ref m42])), (m39, zaI k 30 (u.2.1 10))], rfl, ⟨by (rw [show j = i from Nat.le_antisymm hj_2 (Nat.not_lt.mp (fun q => hi3 j q c_2))]), rfl⟩, by rw [ht9]; exact hP9, hD9⟩, hS.F ht9⟩) hS.2.2 dX9_placeOf_21
set_option maxHeartbeats 4000000 in
set_option maxRecDepth 100000 in
theorem c_X9_placeOf_no (l : Launch) (D : va_G) (k : Nat → ClassId) (sz : Nat) (o m0 m1 m2 m3 m4 m5 m6 m7 m8 m9 m10 m11 m12 m18 m19 m21 m22 m23 m24 m25 m31 m32 m33 m34 m35 m36 m37 m39 m40 m42 : Nat) (u : zS) (num : Int32)  (hn : u.2.2.1 1 ≤ 30) (hi3 : ∀ j, j < u.2.2.1 1 → ¬ u.2.1 10 j = num) : Met l yX9_placeOf wsX9_placeOf ({ frames := 0, cells := 0, slots := 0, locals := 0 } : Room) (va_Pc [.ref o, .int num] (zPre D k [(o, .inr (8, [.ref m0, .ref m1, .ref m2, .ref m3, .ref m4, .ref m5, .ref m6, .ref m7, .ref m8, .ref m9, .ref m10, .ref m11, .ref m12, .long (u.1 8 0), .long (u.1 8 2), .int (u.2.1 11 0), .int (u.2.1 11 1), .int (u.2.1 11 2), .ref m18, .ref m19, .int (nI (u.2.2.1 0)), .ref m21, .ref m22, .ref m23, .ref m24, .ref m25, .int (u.2.1 11 3), .int (u.2.1 11 4), .int (u.2.1 11 5), .int (u.2.1 11 6), .int (u.2.1 11 7), .ref m31, .ref m32, .ref m33, .ref m34, .ref m35, .ref m36, .ref m37, .long (u.1 9 0), .ref m39, .ref m40, .int (nI (u.2.2.1 1)), .ref m42])), (m39, zaI k 30 (u.2.1 10))] sz zX0)) (zQi D [(o, .inr (8, [.ref m0, .ref m1, .ref m2, .ref m3, .ref m4, .ref m5, .ref m6, .ref m7, .ref m8, .ref m9, .ref m10, .ref m11, .ref m12, .long (u.1 8 0), .long (u.1 8 2), .int (u.2.1 11 0), .int (u.2.1 11 1), .int (u.2.1 11 2), .ref m18, .ref m19, .int (nI (u.2.2.1 0)), .ref m21, .ref m22, .ref m23, .ref m24, .ref m25, .int (u.2.1 11 3), .int (u.2.1 11 4), .int (u.2.1 11 5), .int (u.2.1 11 6), .int (u.2.1 11 7), .ref m31, .ref m32, .ref m33, .ref m34, .ref m35, .ref m36, .ref m37, .long (u.1 9 0), .ref m39, .ref m40, .int (nI (u.2.2.1 1)), .ref m42])), (m39, zaI k 30 (u.2.1 10))] sz (-1) (fun w : va_W => w = [(o, .inr (8, [.ref m0, .ref m1, .ref m2, .ref m3, .ref m4, .ref m5, .ref m6, .ref m7, .ref m8, .ref m9, .ref m10, .ref m11, .ref m12, .long (u.1 8 0), .long (u.1 8 2), .int (u.2.1 11 0), .int (u.2.1 11 1), .int (u.2.1 11 2), .ref m18, .ref m19, .int (nI (u.2.2.1 0)), .ref m21, .ref m22, .ref m23, .ref m24, .ref m25, .int (u.2.1 11 3), .int (u.2.1 11 4), .int (u.2.1 11 5), .int (u.2.1 11 6), .int (u.2.1 11 7), .ref m31, .ref m32, .ref m33, .ref m34, .ref m35, .ref m36, .ref m37, .long (u.1 9 0), .ref m39, .ref m40, .int (nI (u.2.2.1 1)), .ref m42])), (m39, zaI k 30 (u.2.1 10))])) 0 0 (va_A [(o, .inr (8, [.ref m0, .ref m1, .ref m2, .ref m3, .ref m4, .ref m5, .ref m6, .ref m7, .ref m8, .ref m9, .ref m10, .ref m11, .ref m12, .long (u.1 8 0), .long (u.1 8 2), .int (u.2.1 11 0), .int (u.2.1 11 1), .int (u.2.1 11 2), .ref m18, .ref m19, .int (nI (u.2.2.1 0)), .ref m21, .ref m22, .ref m23, .ref m24, .ref m25, .int (u.2.1 11 3), .int (u.2.1 11 4), .int (u.2.1 11 5), .int (u.2.1 11 6), .int (u.2.1 11 7), .ref m31, .ref m32, .ref m33, .ref m34, .ref m35, .ref m36, .ref m37, .long (u.1 9 0), .ref m39, .ref m40, .int (nI (u.2.2.1 1)), .ref m42])), (m39, zaI k 30 (u.2.1 10))] sz) := by
  refine Met.ofW (cc := cX9_placeOf) (maxL := 3) (ret := (some .int)) (by decide) rfl ?_
  intro p e s m args below meth c s₁ B hml hv
  obtain ⟨rfl, hsz, hP, hK, hD0, hE⟩ := hv
  have hx := B.exec
  have hb := B.bytes
  have hr := B.returns
  have hts := atoms_spec (ws := wsX9_placeOf) B.pre
  have hown : s.vm.findClass RX9 = some m.cls := findClass_of_methodNamed B.named
  have hlocks := B.notSynchronized
  subst hsz
  have hD := hD0.self (sz := s.heap.size)
  delta zQi zB
  generalize hAe : va_A [(o, .inr (8, [.ref m0, .ref m1, .ref m2, .ref m3, .ref m4, .ref m5, .ref m6, .ref m7, .ref m8, .ref m9, .ref m10, .ref m11, .ref m12, .long (u.1 8 0), .long (u.1 8 2), .int (u.2.1 11 0), .int (u.2.1 11 1), .int (u.2.1 11 2), .ref m18, .ref m19, .int (nI (u.2.2.1 0)), .ref m21, .ref m22, .ref m23, .ref m24, .ref m25, .int (u.2.1 11 3), .int (u.2.1 11 4), .int (u.2.1 11 5), .int (u.2.1 11 6), .int (u.2.1 11 7), .ref m31, .ref m32, .ref m33, .ref m34, .ref m35, .ref m36, .ref m37, .long (u.1 9 0), .ref m39, .ref m40, .int (nI (u.2.2.1 1)), .ref m42])), (m39, zaI k 30 (u.2.1 10))] s.heap.size = A at hD hE ⊢
  have hA : ∀ q : Nat, s.heap.size ≤ q → A q := fun q h => by rw [← hAe]; exact Or.inr h
  have hS : va_S A s.heap s.heap [] := va_S.rf
  have hl := lv_entry [.ref o, .int num] (n := 3) (Nat.le_of_ble_eq_true rfl)
  rw [lg_entry_eq]
  generalize (lg_sl [.ref o, .int num] ++ List.replicate (3 - (lg_sl [.ref o, .int num]).length) Slot.unset).toArray = ls at hl ⊢
  have hl : lv_has ls 3 [(0, .ref o), (1, .int num)] := hl
  have hl177 : (Cond.fieldLink RX9 177 "InertialReferenceModel" "stored" "I").before #[Value.ref o, Value.int num] s = true := zw hts 1 rfl
  have hinX9 : ∀ w ∈ u_ws RX9 TX9 43, w ∈ wsX9_placeOf := fun w h => List.mem_cons_of_mem _ (List.mem_append_right _ h)
  have hl93 : (Cond.fieldLink RX9 93 "InertialReferenceModel" "storedNumber" "[I").before #[Value.ref o, Value.int num] s = true := zw hts 2 rfl
  refine lv_iconst (v := 0) hx hb dX9_placeOf_0 (by decide) ?_
  refine lv_istore_n (lv' := [(2, .int 0), (0, .ref o), (1, .int num)]) hx hb dX9_placeOf_1 rfl hl (by decide) rfl (fun ls hl => ?_)
  have hl : lv_has ls 3 [(2, .int (nI 0)), (0, .ref o), (1, .int num)] := hl
  refine z_loop (St := Nat) (fun st9 => st9 ≤ u.2.2.1 1) (fun st9 => [(o, .inr (8, [.ref m0, .ref m1, .ref m2, .ref m3, .ref m4, .ref m5, .ref m6, .ref m7, .ref m8, .ref m9, .ref m10, .ref m11, .ref m12, .long (u.1 8 0), .long (u.1 8 2), .int (u.2.1 11 0), .int (u.2.1 11 1), .int (u.2.1 11 2), .ref m18, .ref m19, .int (nI (u.2.2.1 0)), .ref m21, .ref m22, .ref m23, .ref m24, .ref m25, .int (u.2.1 11 3), .int (u.2.1 11 4), .int (u.2.1 11 5), .int (u.2.1 11 6), .int (u.2.1 11 7), .ref m31, .ref m32, .ref m33, .ref m34, .ref m35, .ref m36, .ref m37, .long (u.1 9 0), .ref m39, .ref m40, .int (nI (u.2.2.1 1)), .ref m42])), (m39, zaI k 30 (u.2.1 10))]) (fun st9 => [(0, .ref o), (1, .int num), (2, .int (nI st9))]) (fun st9 => u.2.2.1 1 - st9) 0 (Nat.zero_le _) hP hD hS (lv_sub hl [1, 2, 0] rfl) ?_
  intro j hj_2 H locs ls hP hD hS hl ih_2
  have hj_2 : j ≤ u.2.2.1 1 := hj_2
  have hP : va_P D vwCl [(o, .inr (8, [.ref m0, .ref m1, .ref m2, .ref m3, .ref m4, .ref m5, .ref m6, .ref m7, .ref m8, .ref m9, .ref m10, .ref m11, .ref m12, .long (u.1 8 0), .long (u.1 8 2), .int (u.2.1 11 0), .int (u.2.1 11 1), .int (u.2.1 11 2), .ref m18, .ref m19, .int (nI (u.2.2.1 0)), .ref m21, .ref m22, .ref m23, .ref m24, .ref m25, .int (u.2.1 11 3), .int (u.2.1 11 4), .int (u.2.1 11 5), .int (u.2.1 11 6), .int (u.2.1 11 7), .ref m31, .ref m32, .ref m33, .ref m34, .ref m35, .ref m36, .ref m37, .long (u.1 9 0), .ref m39, .ref m40, .int (nI (u.2.2.1 1)), .ref m42])), (m39, zaI k 30 (u.2.1 10))] H := hP
  have hD : va_D A [(o, .inr (8, [.ref m0, .ref m1, .ref m2, .ref m3, .ref m4, .ref m5, .ref m6, .ref m7, .ref m8, .ref m9, .ref m10, .ref m11, .ref m12, .long (u.1 8 0), .long (u.1 8 2), .int (u.2.1 11 0), .int (u.2.1 11 1), .int (u.2.1 11 2), .ref m18, .ref m19, .int (nI (u.2.2.1 0)), .ref m21, .ref m22, .ref m23, .ref m24, .ref m25, .int (u.2.1 11 3), .int (u.2.1 11 4), .int (u.2.1 11 5), .int (u.2.1 11 6), .int (u.2.1 11 7), .ref m31, .ref m32, .ref m33, .ref m34, .ref m35, .ref m36, .ref m37, .long (u.1 9 0), .ref m39, .ref m40, .int (nI (u.2.2.1 1)), .ref m42])), (m39, zaI k 30 (u.2.1 10))] := hD
  have hl : lv_has ls 3 [(0, .ref o), (1, .int num), (2, .int (nI j))] := hl
  refine lv_iload_n hx hb dX9_placeOf_2 rfl (lv_at hl 2 rfl) ?_
  refine lv_aload_n hx hb dX9_placeOf_3 rfl (lv_at hl 0 rfl) ?_
  refine va_get (D := D) (ci := 8) (v := .int (nI (u.2.2.1 1))) (C := RX9) (T := TX9) (N := 43) hx hb hts hinX9 hown hK hP 0 rfl rfl 41 (Nat.le_of_ble_eq_true rfl) hl177 (fun _ h9 => h9) rfl dX9_placeOf_4 ?_
  refine lv_icmp_ge (tgt := 28) hx hb dX9_placeOf_7 (by decide) (fun c_1 => ?_) (fun c_1 => ?_)
  · skip
    have c_1 : ((u.2.2.1 1 : Nat) : Int) ≤ ((j : Nat) : Int) := zle c_1 (nI_toInt (by omega)) (nI_toInt (by omega))
    refine lv_iconst (v := (-1)) hx hb dX9_placeOf_28 (by decide) ?_
    have hP9 := hP.sub (ws' := [(o, .inr (8, [.ref m0, .ref m1, .ref m2, .ref m3, .ref m4, .ref m5, .ref m6, .ref m7, .ref m8, .ref m9, .ref m10, .ref m11, .ref m12, .long (u.1 8 0), .long (u.1 8 2), .int (u.2.1 11 0), .int (u.2.1 11 1), .int (u.2.1 11 2), .ref m18, .ref m19, .int (nI (u.2.2.1 0)), .ref m21, .ref m22, .ref m23, .ref m24, .ref m25, .int (u.2.1 11 3), .int (u.2.1 11 4), .int (u.2.1 11 5), .int (u.2.1 11 6), .int (u.2.1 11 7), .ref m31, .ref m32, .ref m33, .ref m34, .ref m35, .ref m36, .ref m37, .long (u.1 9 0), .ref m39, .ref m40, .int (nI (u.2.2.1 1)), .ref m42])), (m39, zaI k 30 (u.2.1 10))]) [0, 1] rfl
    have hD9 := hD.sub (ws' := [(o, .inr (8, [.ref m0, .ref m1, .ref m2, .ref m3, .ref m4, .ref m5, .ref m6, .ref m7, .ref m8, .ref m9, .ref m10, .ref m11, .ref m12, .long (u.1 8 0), .long (u.1 8 2), .int (u.2.1 11 0), .int (u.2.1 11 1), .int (u.2.1 11 2), .ref m18, .ref m19, .int (nI (u.2.2.1 0)), .ref m21, .ref m22, .ref m23, .ref m24, .ref m25, .int (u.2.1 11 3), .int (u.2.1 11 4), .int (u.2.1 11 5), .int (u.2.1 11 6), .int (u.2.1 11 7), .ref m31, .ref m32, .ref m33, .ref m34, .ref m35, .ref m36, .ref m37, .long (u.1 9 0), .ref m39, .ref m40, .int (nI (u.2.2.1 1)), .ref m42])), (m39, zaI k 30 (u.2.1 10))]) [0, 1] (by decide) rfl
    exact W.iret (v := (-1)) hx hb hr (fun t9 ht9 hW9 => ⟨⟨(-1), [(o, .inr (8, [.ref m0, .ref m1, .ref m2, .ref m3, .ref m4, .ref m5, .ref m6, .ref m7, .ref m8, .ref m9, .ref m10, .ref m11, .ref m12, .long (u.1 8 0), .long (u.1 8 2), .int (u.2.1 11 0), .int (u.2.1 11 1), .int (u.2.1 11 2), .ref m18, .ref m19, .int (nI (u.2.2.1 0)), .ref m21, .ref m22, .ref m23, .ref m24, .ref m25, .int (u.2.1 11 3), .int (u.2.1 11 4), .int (u.2.1 11 5), .int (u.2.1 11 6), .int (u.2.1 11 7), .ref m31, .ref m32, .ref m33, .ref m34, .ref m35, .ref m36, .ref m37, .long (u.1 9 0), .ref m39, .ref m40, .int (nI (u.2.2.1 1)), .ref m42])), (m39, zaI k 30 (u.2.1 10))], rfl, ⟨rfl, rfl⟩, by rw [ht9]; exact hP9, hD9⟩, hS.F ht9⟩) hS.2.2 dX9_placeOf_29
  · skip
    have c_1 : ((j : Nat) : Int) < ((u.2.2.1 1 : Nat) : Int) := znle c_1 (nI_toInt (by omega)) (nI_toInt (by omega))
    refine lv_aload_n hx hb dX9_placeOf_10 rfl (lv_at hl 0 rfl) ?_
    refine va_get (D := D) (ci := 8) (v := .ref m39) (C := RX9) (T := TX9) (N := 43) hx hb hts hinX9 hown hK hP 0 rfl rfl 39 (Nat.le_of_ble_eq_true rfl) hl93 (fun _ h9 => h9) rfl dX9_placeOf_11 ?_
    refine lv_iload_n hx hb dX9_placeOf_14 rfl (lv_at hl 2 rfl) ?_
    refine z_iald hx hb hK hP 1 rfl j (zxn (by omega)) (by omega) (v := (u.2.1 10) j) rfl dX9_placeOf_15 ?_
    refine lv_iload_n hx hb dX9_placeOf_16 rfl (lv_at hl 1 rfl) ?_
    refine lv_icmp_ne (tgt := 22) hx hb dX9_placeOf_17 (by decide) (fun c_2 => ?_) (fun c_2 => ?_)
    · skip
      refine lv_iinc (v := nI (j + 1)) (lv' := [(2, .int (nI (j + 1))), (0, .ref o), (1, .int num)]) hx hb dX9_placeOf_22 hl (k := 2) rfl (nI_1 _) (by decide) rfl (fun ls hl => ?_)
      refine lv_goto (tgt := 2) hx hb dX9_placeOf_25 (by decide) ?_
      exact ih_2 (j + 1) (by omega) (by omega) _ _ _ hP hD hS (lv_sub hl [1, 2, 0] rfl)
    · skip
      exact absurd c_2 (hi3 j (by omega))
