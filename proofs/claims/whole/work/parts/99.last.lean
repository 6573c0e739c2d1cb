set_option maxHeartbeats 4000000 in
set_option maxRecDepth 100000 in
theorem c_X9_recall_yes (l : Launch) (D : va_G) (k : Nat → ClassId) (sz : Nat) (o m0 m1 m2 m3 m4 m5 m6 m7 m8 m9 m10 m11 m12 m18 m19 m21 m22 m23 m24 m25 m31 m32 m33 m34 m35 m36 m37 m39 m40 m42 : Nat) (u : zS) (a : Int32) (i : Nat)  (hn : u.2.2.1 1 ≤ 30) (hi : i < u.2.2.1 1) (hi2 : u.2.1 10 i = a) (hi3 : ∀ j, j < i → ¬ u.2.1 10 j = a) : Met l yX9_recall wsX9_recall ({ frames := 1, cells := 0, slots := 0, locals := 22 } : Room) (va_Pc [.ref o, .int a] (zPre D k [(o, .inr (8, [.ref m0, .ref m1, .ref m2, .ref m3, .ref m4, .ref m5, .ref m6, .ref m7, .ref m8, .ref m9, .ref m10, .ref m11, .ref m12, .long (u.1 8 0), .long (u.1 8 2), .int (u.2.1 11 0), .int (u.2.1 11 1), .int (u.2.1 11 2), .ref m18, .ref m19, .int (nI (u.2.2.1 0)), .ref m21, .ref m22, .ref m23, .ref m24, .ref m25, .int (u.2.1 11 3), .int (u.2.1 11 4), .int (u.2.1 11 5), .int (u.2.1 11 6), .int (u.2.1 11 7), .ref m31, .ref m32, .ref m33, .ref m34, .ref m35, .ref m36, .ref m37, .long (u.1 9 0), .ref m39, .ref m40, .int (nI (u.2.2.1 1)), .ref m42])), (m1, zaJ k 4 (u.1 1)), (m39, zaI k 30 (u.2.1 10)), (m40, zaJ k 120 (u.1 10))] sz zX0)) (zQi D [(o, .inr (8, [.ref m0, .ref m1, .ref m2, .ref m3, .ref m4, .ref m5, .ref m6, .ref m7, .ref m8, .ref m9, .ref m10, .ref m11, .ref m12, .long (u.1 8 0), .long (u.1 8 2), .int (u.2.1 11 0), .int (u.2.1 11 1), .int (u.2.1 11 2), .ref m18, .ref m19, .int (nI (u.2.2.1 0)), .ref m21, .ref m22, .ref m23, .ref m24, .ref m25, .int (u.2.1 11 3), .int (u.2.1 11 4), .int (u.2.1 11 5), .int (u.2.1 11 6), .int (u.2.1 11 7), .ref m31, .ref m32, .ref m33, .ref m34, .ref m35, .ref m36, .ref m37, .long (u.1 9 0), .ref m39, .ref m40, .int (nI (u.2.2.1 1)), .ref m42])), (m1, zaJ k 4 (u.1 1)), (m39, zaI k 30 (u.2.1 10)), (m40, zaJ k 120 (u.1 10))] sz 0 (fun w : va_W => w = [(o, .inr (8, [.ref m0, .ref m1, .ref m2, .ref m3, .ref m4, .ref m5, .ref m6, .ref m7, .ref m8, .ref m9, .ref m10, .ref m11, .ref m12, .long (u.1 8 0), .long (u.1 8 2), .int (u.2.1 11 0), .int (u.2.1 11 1), .int (u.2.1 11 2), .ref m18, .ref m19, .int (nI (u.2.2.1 0)), .ref m21, .ref m22, .ref m23, .ref m24, .ref m25, .int (u.2.1 11 3), .int (u.2.1 11 4), .int (u.2.1 11 5), .int (u.2.1 11 6), .int (u.2.1 11 7), .ref m31, .ref m32, .ref m33, .ref m34, .ref m35, .ref m36, .ref m37, .long (u.1 9 0), .ref m39, .ref m40, .int (nI (u.2.2.1 1)), .ref m42])), (m1, zaJ k 4 (pick (u.1 10) i)), (m39, zaI k 30 (u.2.1 10)), (m40, zaJ k 120 (u.1 10))])) 0 0 (va_A [(o, .inr (8, [.ref m0, .ref m1, .ref m2, .ref m3, .ref m4, .ref m5, .ref m6, .ref m7, .ref m8, .ref m9, .ref m10, .ref m11, .ref m12, .long (u.1 8 0), .long (u.1 8 2), .int (u.2.1 11 0), .int (u.2.1 11 1), .int (u.2.1 11 2), .ref m18, .ref m19, .int (nI (u.2.2.1 0)), .ref m21, .ref m22, .ref m23, .ref m24, .ref m25, .int (u.2.1 11 3), .int (u.2.1 11 4), .int (u.2.1 11 5), .int (u.2.1 11 6), .int (u.2.1 11 7), .ref m31, .ref m32, .ref m33, .ref m34, .ref m35, .ref m36, .ref m37, .long (u.1 9 0), .ref m39, .ref m40, .int (nI (u.2.2.1 1)), .ref m42])), (m1, zaJ k 4 (u.1 1)), (m39, zaI k 30 (u.2.1 10)), (m40, zaJ k 120 (u.1 10))] sz) := by
  refine Met.ofW (cc := cX9_recall) (maxL := 4) (ret := (some .int)) (by decide) rfl ?_
  intro p e s m args below meth c s₁ B hml hv
  obtain ⟨rfl, hsz, hP, hK, hD0, hE⟩ := hv
  have hx := B.exec
  have hb := B.bytes
  have hr := B.returns
  have hts := atoms_spec (ws := wsX9_recall) B.pre
  have hown : s.vm.findClass RX9 = some m.cls := findClass_of_methodNamed B.named
  have hlocks := B.notSynchronized
  subst hsz
  have hD := hD0.self (sz := s.heap.size)
  delta zQi zB
  generalize hAe : va_A [(o, .inr (8, [.ref m0, .ref m1, .ref m2, .ref m3, .ref m4, .ref m5, .ref m6, .ref m7, .ref m8, .ref m9, .ref m10, .ref m11, .ref m12, .long (u.1 8 0), .long (u.1 8 2), .int (u.2.1 11 0), .int (u.2.1 11 1), .int (u.2.1 11 2), .ref m18, .ref m19, .int (nI (u.2.2.1 0)), .ref m21, .ref m22, .ref m23, .ref m24, .ref m25, .int (u.2.1 11 3), .int (u.2.1 11 4), .int (u.2.1 11 5), .int (u.2.1 11 6), .int (u.2.1 11 7), .ref m31, .ref m32, .ref m33, .ref m34, .ref m35, .ref m36, .ref m37, .long (u.1 9 0), .ref m39, .ref m40, .int (nI (u.2.2.1 1)), .ref m42])), (m1, zaJ k 4 (u.1 1)), (m39, zaI k 30 (u.2.1 10)), (m40, zaJ k 120 (u.1 10))] s.heap.size = A at hD hE ⊢
  have hA : ∀ q : Nat, s.heap.size ≤ q → A q := fun q h => by rw [← hAe]; exact Or.inr h
  have hS : va_S A s.heap s.heap [] := va_S.rf
  have hl := lv_entry [.ref o, .int a] (n := 4) (Nat.le_of_ble_eq_true rfl)
  rw [lg_entry_eq]
  generalize (lg_sl [.ref o, .int a] ++ List.replicate (4 - (lg_sl [.ref o, .int a]).length) Slot.unset).toArray = ls at hl ⊢
  have hl : lv_has ls 4 [(0, .ref o), (1, .int a)] := hl
  have hl13 : (Cond.fieldLink RX9 13 "InertialReferenceModel" "estimate" "[J").before #[Value.ref o, Value.int a] s = true := zw hts 1 rfl
  have hinX9 : ∀ w ∈ u_ws RX9 TX9 43, w ∈ wsX9_recall := fun w h => List.mem_cons_of_mem _ (List.mem_append_right _ h)
  have hl96 : (Cond.fieldLink RX9 96 "InertialReferenceModel" "storedPart" "[J").before #[Value.ref o, Value.int a] s = true := zw hts 2 rfl
  refine lv_aload_n hx hb dX9_recall_0 rfl (lv_at hl 0 rfl) ?_
  refine lv_iload_n hx hb dX9_recall_1 rfl (lv_at hl 1 rfl) ?_
  refine z_calli0 (wc := [(o, .inr (8, [.ref m0, .ref m1, .ref m2, .ref m3, .ref m4, .ref m5, .ref m6, .ref m7, .ref m8, .ref m9, .ref m10, .ref m11, .ref m12, .long (u.1 8 0), .long (u.1 8 2), .int (u.2.1 11 0), .int (u.2.1 11 1), .int (u.2.1 11 2), .ref m18, .ref m19, .int (nI (u.2.2.1 0)), .ref m21, .ref m22, .ref m23, .ref m24, .ref m25, .int (u.2.1 11 3), .int (u.2.1 11 4), .int (u.2.1 11 5), .int (u.2.1 11 6), .int (u.2.1 11 7), .ref m31, .ref m32, .ref m33, .ref m34, .ref m35, .ref m36, .ref m37, .long (u.1 9 0), .ref m39, .ref m40, .int (nI (u.2.2.1 1)), .ref m42])), (m39, zaI k 30 (u.2.1 10))]) (wr := [(m1, zaJ k 4 (u.1 1)), (m40, zaJ k 120 (u.1 10))]) (va_runV (As := [.int a]) (rest := []) ⟨hx, hb, hml, hown, hts⟩ (c_X9_placeOf_yes l D k s.heap.size o m0 m1 m2 m3 m4 m5 m6 m7 m8 m9 m10 m11 m12 m18 m19 m21 m22 m23 m24 m25 m31 m32 m33 m34 m35 m36 m37 m39 m40 m42 u a i hn hi hi2 hi3) (cwV 1 hts gX9_recall_X9_placeOf rfl rfl rfl (by decide +kernel) ⟨Nat.le_of_ble_eq_true rfl, Nat.le_of_ble_eq_true rfl⟩) (z_preV (wc := [(o, .inr (8, [.ref m0, .ref m1, .ref m2, .ref m3, .ref m4, .ref m5, .ref m6, .ref m7, .ref m8, .ref m9, .ref m10, .ref m11, .ref m12, .long (u.1 8 0), .long (u.1 8 2), .int (u.2.1 11 0), .int (u.2.1 11 1), .int (u.2.1 11 2), .ref m18, .ref m19, .int (nI (u.2.2.1 0)), .ref m21, .ref m22, .ref m23, .ref m24, .ref m25, .int (u.2.1 11 3), .int (u.2.1 11 4), .int (u.2.1 11 5), .int (u.2.1 11 6), .int (u.2.1 11 7), .ref m31, .ref m32, .ref m33, .ref m34, .ref m35, .ref m36, .ref m37, .long (u.1 9 0), .ref m39, .ref m40, .int (nI (u.2.2.1 1)), .ref m42])), (m39, zaI k 30 (u.2.1 10))]) 0 8 hP hD hK [0, 2] rfl rfl rfl rfl zb0 zp0) rfl rfl hl.1 rfl (lv_room (Nat.le_of_ble_eq_true rfl)) dX9_recall_2 ⟨Nat.zero_le _, Nat.zero_le _⟩) hP hD hS hA [0, 2] [1, 3] rfl rfl rfl (by decide) (fun w H locs hF hP hD hS => ?_)
  subst hF
  have hP : va_P D vwCl [(m1, zaJ k 4 (u.1 1)), (m40, zaJ k 120 (u.1 10)), (o, .inr (8, [.ref m0, .ref m1, .ref m2, .ref m3, .ref m4, .ref m5, .ref m6, .ref m7, .ref m8, .ref m9, .ref m10, .ref m11, .ref m12, .long (u.1 8 0), .long (u.1 8 2), .int (u.2.1 11 0), .int (u.2.1 11 1), .int (u.2.1 11 2), .ref m18, .ref m19, .int (nI (u.2.2.1 0)), .ref m21, .ref m22, .ref m23, .ref m24, .ref m25, .int (u.2.1 11 3), .int (u.2.1 11 4), .int (u.2.1 11 5), .int (u.2.1 11 6), .int (u.2.1 11 7), .ref m31, .ref m32, .ref m33, .ref m34, .ref m35, .ref m36, .ref m37, .long (u.1 9 0), .ref m39, .ref m40, .int (nI (u.2.2.1 1)), .ref m42])), (m39, zaI k 30 (u.2.1 10))] H := hP
  have hD : va_D A [(m1, zaJ k 4 (u.1 1)), (m40, zaJ k 120 (u.1 10)), (o, .inr (8, [.ref m0, .ref m1, .ref m2, .ref m3, .ref m4, .ref m5, .ref m6, .ref m7, .ref m8, .ref m9, .ref m10, .ref m11, .ref m12, .long (u.1 8 0), .long (u.1 8 2), .int (u.2.1 11 0), .int (u.2.1 11 1), .int (u.2.1 11 2), .ref m18, .ref m19, .int (nI (u.2.2.1 0)), .ref m21, .ref m22, .ref m23, .ref m24, .ref m25, .int (u.2.1 11 3), .int (u.2.1 11 4), .int (u.2.1 11 5), .int (u.2.1 11 6), .int (u.2.1 11 7), .ref m31, .ref m32, .ref m33, .ref m34, .ref m35, .ref m36, .ref m37, .long (u.1 9 0), .ref m39, .ref m40, .int (nI (u.2.2.1 1)), .ref m42])), (m39, zaI k 30 (u.2.1 10))] := hD
  refine lv_istore_n (lv' := [(2, .int (nI i)), (0, .ref o), (1, .int a)]) hx hb dX9_recall_5 rfl hl (by decide) rfl (fun ls hl => ?_)
  refine lv_iload_n hx hb dX9_recall_6 rfl (lv_at hl 0 rfl) ?_
  refine lv_iconst (v := (-1)) hx hb dX9_recall_7 (by decide) ?_
  refine lv_icmp_ne (tgt := 13) hx hb dX9_recall_8 (by decide) (fun c => ?_) (fun c => absurd c (nI_nm1 (by omega)))
  refine lv_iconst (v := 0) hx hb dX9_recall_13 (by decide) ?_
  refine lv_istore_n (lv' := [(3, .int 0), (2, .int (nI i)), (0, .ref o), (1, .int a)]) hx hb dX9_recall_14 rfl hl (by decide) rfl (fun ls hl => ?_)
  refine lv_iload_n hx hb dX9_recall_15 rfl (lv_at hl 0 rfl) ?_
  refine lv_iconst (v := 4) hx hb dX9_recall_16 (by decide) ?_
  refine lv_icmp_ge (tgt := 42) hx hb dX9_recall_17 (by decide) (fun c => absurd c (by decide)) (fun _ => ?_)
  refine lv_aload_n hx hb dX9_recall_20 rfl (lv_at hl 2 rfl) ?_
  refine va_get (D := D) (ci := 8) (v := .ref m1) (C := RX9) (T := TX9) (N := 43) hx hb hts hinX9 hown hK hP 2 rfl rfl 1 (Nat.le_of_ble_eq_true rfl) hl13 (fun _ h9 => h9) rfl dX9_recall_21 ?_
  refine lv_iload_n hx hb dX9_recall_24 rfl (lv_at hl 0 rfl) ?_
  refine lv_aload_n hx hb dX9_recall_25 rfl (lv_at hl 2 rfl) ?_
  refine va_get (D := D) (ci := 8) (v := .ref m40) (C := RX9) (T := TX9) (N := 43) hx hb hts hinX9 hown hK hP 2 rfl rfl 40 (Nat.le_of_ble_eq_true rfl) hl96 (fun _ h9 => h9) rfl dX9_recall_26 ?_
  refine lv_iconst (v := 4) hx hb dX9_recall_29 (by decide) ?_
  refine lv_iload_n hx hb dX9_recall_30 rfl (lv_at hl 1 rfl) ?_
  refine lv_imul hx hb dX9_recall_31 ?_
  refine lv_iload_n hx hb dX9_recall_32 rfl (lv_at hl 0 rfl) ?_
  refine lv_iadd hx hb dX9_recall_33 ?_
  refine W.eq (g2 := F0 m 34 ls [.int (nI (i * 4 + 0)), .ref m40, .int 0, .ref m1]) (by rw [ix4_0]) ?_
  refine z_lald hx hb hK hP 1 rfl (i * 4 + 0) (zxn (by omega)) (by omega) (v := (u.1 10) (i * 4 + 0)) rfl dX9_recall_34 ?_
  refine z_last hx hb hK hP hD hS 0 rfl 0 zx0 (by decide) (ws' := [(m1, zaJ k 4 (vp_updL (u.1 1) 0 ((u.1 10) (i * 4 + 0)))), (m40, zaJ k 120 (u.1 10)), (o, .inr (8, [.ref m0, .ref m1, .ref m2, .ref m3, .ref m4, .ref m5, .ref m6, .ref m7, .ref m8, .ref m9, .ref m10, .ref m11, .ref m12, .long (u.1 8 0), .long (u.1 8 2), .int (u.2.1 11 0), .int (u.2.1 11 1), .int (u.2.1 11 2), .ref m18, .ref m19, .int (nI (u.2.2.1 0)), .ref m21, .ref m22, .ref m23, .ref m24, .ref m25, .int (u.2.1 11 3), .int (u.2.1 11 4), .int (u.2.1 11 5), .int (u.2.1 11 6), .int (u.2.1 11 7), .ref m31, .ref m32, .ref m33, .ref m34, .ref m35, .ref m36, .ref m37, .long (u.1 9 0), .ref m39, .ref m40, .int (nI (u.2.2.1 1)), .ref m42])), (m39, zaI k 30 (u.2.1 10))]) rfl dX9_recall_35 (fun H locs hP hD hS => ?_)
  refine lv_iinc (v := 1) (lv' := [(3, .int 1), (2, .int (nI i)), (0, .ref o), (1, .int a)]) hx hb dX9_recall_36 hl (k := 0) rfl (by decide) (by decide) rfl (fun ls hl => ?_)
  refine lv_goto (tgt := 15) hx hb dX9_recall_39 (by decide) ?_
  refine lv_iload_n hx hb dX9_recall_15 rfl (lv_at hl 0 rfl) ?_
  refine lv_iconst (v := 4) hx hb dX9_recall_16 (by decide) ?_
  refine lv_icmp_ge (tgt := 42) hx hb dX9_recall_17 (by decide) (fun c => absurd c (by decide)) (fun _ => ?_)
  refine lv_aload_n hx hb dX9_recall_20 rfl (lv_at hl 2 rfl) ?_
  refine va_get (D := D) (ci := 8) (v := .ref m1) (C := RX9) (T := TX9) (N := 43) hx hb hts hinX9 hown hK hP 2 rfl rfl 1 (Nat.le_of_ble_eq_true rfl) hl13 (fun _ h9 => h9) rfl dX9_recall_21 ?_
  refine lv_iload_n hx hb dX9_recall_24 rfl (lv_at hl 0 rfl) ?_
  refine lv_aload_n hx hb dX9_recall_25 rfl (lv_at hl 2 rfl) ?_
  refine va_get (D := D) (ci := 8) (v := .ref m40) (C := RX9) (T := TX9) (N := 43) hx hb hts hinX9 hown hK hP 2 rfl rfl 40 (Nat.le_of_ble_eq_true rfl) hl96 (fun _ h9 => h9) rfl dX9_recall_26 ?_
  refine lv_iconst (v := 4) hx hb dX9_recall_29 (by decide) ?_
  refine lv_iload_n hx hb dX9_recall_30 rfl (lv_at hl 1 rfl) ?_
  refine lv_imul hx hb dX9_recall_31 ?_
  refine lv_iload_n hx hb dX9_recall_32 rfl (lv_at hl 0 rfl) ?_
  refine lv_iadd hx hb dX9_recall_33 ?_
  refine W.eq (g2 := F0 m 34 ls [.int (nI (i * 4 + 1)), .ref m40, .int 1, .ref m1]) (by rw [ix4_1]) ?_
  refine z_lald hx hb hK hP 1 rfl (i * 4 + 1) (zxn (by omega)) (by omega) (v := (u.1 10) (i * 4 + 1)) rfl dX9_recall_34 ?_
  refine z_last hx hb hK hP hD hS 0 rfl 1 zx1 (by decide) (ws' := [(m1, zaJ k 4 (vp_updL (vp_updL (u.1 1) 0 ((u.1 10) (i * 4 + 0))) 1 ((u.1 10) (i * 4 + 1)))), (m40, zaJ k 120 (u.1 10)), (o, .inr (8, [.ref m0, .ref m1, .ref m2, .ref m3, .ref m4, .ref m5, .ref m6, .ref m7, .ref m8, .ref m9, .ref m10, .ref m11, .ref m12, .long (u.1 8 0), .long (u.1 8 2), .int (u.2.1 11 0), .int (u.2.1 11 1), .int (u.2.1 11 2), .ref m18, .ref m19, .int (nI (u.2.2.1 0)), .ref m21, .ref m22, .ref m23, .ref m24, .ref m25, .int (u.2.1 11 3), .int (u.2.1 11 4), .int (u.2.1 11 5), .int (u.2.1 11 6), .int (u.2.1 11 7), .ref m31, .ref m32, .ref m33, .ref m34, .ref m35, .ref m36, .ref m37, .long (u.1 9 0), .ref m39, .ref m40, .int (nI (u.2.2.1 1)), .ref m42])), (m39, zaI k 30 (u.2.1 10))]) rfl dX9_recall_35 (fun H locs hP hD hS => ?_)
  refine lv_iinc (v := 2) (lv' := [(3, .int 2), (2, .int (nI i)), (0, .ref o), (1, .int a)]) hx hb dX9_recall_36 hl (k := 0) rfl (by decide) (by decide) rfl (fun ls hl => ?_)
  refine lv_goto (tgt := 15) hx hb dX9_recall_39 (by decide) ?_
  refine lv_iload_n hx hb dX9_recall_15 rfl (lv_at hl 0 rfl) ?_
  refine lv_iconst (v := 4) hx hb dX9_recall_16 (by decide) ?_
  refine lv_icmp_ge (tgt := 42) hx hb dX9_recall_17 (by decide) (fun c => absurd c (by decide)) (fun _ => ?_)
  refine lv_aload_n hx hb dX9_recall_20 rfl (lv_at hl 2 rfl) ?_
  refine va_get (D := D) (ci := 8) (v := .ref m1) (C := RX9) (T := TX9) (N := 43) hx hb hts hinX9 hown hK hP 2 rfl rfl 1 (Nat.le_of_ble_eq_true rfl) hl13 (fun _ h9 => h9) rfl dX9_recall_21 ?_
  refine lv_iload_n hx hb dX9_recall_24 rfl (lv_at hl 0 rfl) ?_
  refine lv_aload_n hx hb dX9_recall_25 rfl (lv_at hl 2 rfl) ?_
  refine va_get (D := D) (ci := 8) (v := .ref m40) (C := RX9) (T := TX9) (N := 43) hx hb hts hinX9 hown hK hP 2 rfl rfl 40 (Nat.le_of_ble_eq_true rfl) hl96 (fun _ h9 => h9) rfl dX9_recall_26 ?_
  refine lv_iconst (v := 4) hx hb dX9_recall_29 (by decide) ?_
  refine lv_iload_n hx hb dX9_recall_30 rfl (lv_at hl 1 rfl) ?_
  refine lv_imul hx hb dX9_recall_31 ?_
  refine lv_iload_n hx hb dX9_recall_32 rfl (lv_at hl 0 rfl) ?_
  refine lv_iadd hx hb dX9_recall_33 ?_
  refine W.eq (g2 := F0 m 34 ls [.int (nI (i * 4 + 2)), .ref m40, .int 2, .ref m1]) (by rw [ix4_2]) ?_
  refine z_lald hx hb hK hP 1 rfl (i * 4 + 2) (zxn (by omega)) (by omega) (v := (u.1 10) (i * 4 + 2)) rfl dX9_recall_34 ?_
  refine z_last hx hb hK hP hD hS 0 rfl 2 zx2 (by decide) (ws' := [(m1, zaJ k 4 (vp_updL (vp_updL (vp_updL (u.1 1) 0 ((u.1 10) (i * 4 + 0))) 1 ((u.1 10) (i * 4 + 1))) 2 ((u.1 10) (i * 4 + 2)))), (m40, zaJ k 120 (u.1 10)), (o, .inr (8, [.ref m0, .ref m1, .ref m2, .ref m3, .ref m4, .ref m5, .ref m6, .ref m7, .ref m8, .ref m9, .ref m10, .ref m11, .ref m12, .long (u.1 8 0), .long (u.1 8 2), .int (u.2.1 11 0), .int (u.2.1 11 1), .int (u.2.1 11 2), .ref m18, .ref m19, .int (nI (u.2.2.1 0)), .ref m21, .ref m22, .ref m23, .ref m24, .ref m25, .int (u.2.1 11 3), .int (u.2.1 11 4), .int (u.2.1 11 5), .int (u.2.1 11 6), .int (u.2.1 11 7), .ref m31, .ref m32, .ref m33, .ref m34, .ref m35, .ref m36, .ref m37, .long (u.1 9 0), .ref m39, .ref m40, .int (nI (u.2.2.1 1)), .ref m42])), (m39, zaI k 30 (u.2.1 10))]) rfl dX9_recall_35 (fun H locs hP hD hS => ?_)
  refine lv_iinc (v := 3) (lv' := [(3, .int 3), (2, .int (nI i)), (0, .ref o), (1, .int a)]) hx hb dX9_recall_36 hl (k := 0) rfl (by decide) (by decide) rfl (fun ls hl => ?_)
  refine lv_goto (tgt := 15) hx hb dX9_recall_39 (by decide) ?_
  refine lv_iload_n hx hb dX9_recall_15 rfl (lv_at hl 0 rfl) ?_
  refine lv_iconst (v := 4) hx hb dX9_recall_16 (by decide) ?_
  refine lv_icmp_ge (tgt := 42) hx hb dX9_recall_17 (by decide) (fun c => absurd c (by decide)) (fun _ => ?_)
  refine lv_aload_n hx hb dX9_recall_20 rfl (lv_at hl 2 rfl) ?_
  refine va_get (D := D) (ci := 8) (v := .ref m1) (C := RX9) (T := TX9) (N := 43) hx hb hts hinX9 hown hK hP 2 rfl rfl 1 (Nat.le_of_ble_eq_true rfl) hl13 (fun _ h9 => h9) rfl dX9_recall_21 ?_
  refine lv_iload_n hx hb dX9_recall_24 rfl (lv_at hl 0 rfl) ?_
  refine lv_aload_n hx hb dX9_recall_25 rfl (lv_at hl 2 rfl) ?_
  refine va_get (D := D) (ci := 8) (v := .ref m40) (C := RX9) (T := TX9) (N := 43) hx hb hts hinX9 hown hK hP 2 rfl rfl 40 (Nat.le_of_ble_eq_true rfl) hl96 (fun _ h9 => h9) rfl dX9_recall_26 ?_
  refine lv_iconst (v := 4) hx hb dX9_recall_29 (by decide) ?_
  refine lv_iload_n hx hb dX9_recall_30 rfl (lv_at hl 1 rfl) ?_
  refine lv_imul hx hb dX9_recall_31 ?_
  refine lv_iload_n hx hb dX9_recall_32 rfl (lv_at hl 0 rfl) ?_
  refine lv_iadd hx hb dX9_recall_33 ?_
  refine W.eq (g2 := F0 m 34 ls [.int (nI (i * 4 + 3)), .ref m40, .int 3, .ref m1]) (by rw [ix4_3]) ?_
  refine z_lald hx hb hK hP 1 rfl (i * 4 + 3) (zxn (by omega)) (by omega) (v := (u.1 10) (i * 4 + 3)) rfl dX9_recall_34 ?_
  refine z_last hx hb hK hP hD hS 0 rfl 3 zx3 (by decide) (ws' := [(m1, zaJ k 4 (vp_updL (vp_updL (vp_updL (vp_updL (u.1 1) 0 ((u.1 10) (i * 4 + 0))) 1 ((u.1 10) (i * 4 + 1))) 2 ((u.1 10) (i * 4 + 2))) 3 ((u.1 10) (i * 4 + 3)))), (m40, zaJ k 120 (u.1 10)), (o, .inr (8, [.ref m0, .ref m1, .ref m2, .ref m3, .ref m4, .ref m5, .ref m6, .ref m7, .ref m8, .ref m9, .ref m10, .ref m11, .ref m12, .long (u.1 8 0), .long (u.1 8 2), .int (u.2.1 11 0), .int (u.2.1 11 1), .int (u.2.1 11 2), .ref m18, .ref m19, .int (nI (u.2.2.1 0)), .ref m21, .ref m22, .ref m23, .ref m24, .ref m25, .int (u.2.1 11 3), .int (u.2.1 11 4), .int (u.2.1 11 5), .int (u.2.1 11 6), .int (u.2.1 11 7), .ref m31, .ref m32, .ref m33, .ref m34, .ref m35, .ref m36, .ref m37, .long (u.1 9 0), .ref m39, .ref m40, .int (nI (u.2.2.1 1)), .ref m42])), (m39, zaI k 30 (u.2.1 10))]) rfl dX9_recall_35 (fun H locs hP hD hS => ?_)
  have hP := z_congJ hP 0 rfl (g := pick (u.1 10) i) (zall4 rfl rfl rfl rfl) (ws' := [(m1, zaJ k 4 (pick (u.1 10) i)), (m40, zaJ k 120 (u.1 10)), (o, .inr (8, [.ref m0, .ref m1, .ref m2, .ref m3, .ref m4, .ref m5, .ref m6, .ref m7, .ref m8, .ref m9, .ref m10, .ref m11, .ref m12, .long (u.1 8 0), .long (u.1 8 2), .int (u.2.1 11 0), .int (u.2.1 11 1), .int (u.2.1 11 2), .ref m18, .ref m19, .int (nI (u.2.2.1 0)), .ref m21, .ref m22, .ref m23, .ref m24, .ref m25, .int (u.2.1 11 3), .int (u.2.1 11 4), .int (u.2.1 11 5), .int (u.2.1 11 6), .int (u.2.1 11 7), .ref m31, .ref m32, .ref m33, .ref m34, .ref m35, .ref m36, .ref m37, .long (u.1 9 0), .ref m39, .ref m40, .int (nI (u.2.2.1 1)), .ref m42])), (m39, zaI k 30 (u.2.1 10))]) rfl
  have hD := z_congDJ hD 0 rfl (g := pick (u.1 10) i) (ws' := [(m1, zaJ k 4 (pick (u.1 10) i)), (m40, zaJ k 120 (u.1 10)), (o, .inr (8, [.ref m0, .ref m1, .ref m2, .ref m3, .ref m4, .ref m5, .ref m6, .ref m7, .ref m8, .ref m9, .ref m10, .ref m11, .ref m12, .long (u.1 8 0), .long (u.1 8 2), .int (u.2.1 11 0), .int (u.2.1 11 1), .int (u.2.1 11 2), .ref m18, .ref m19, .int (nI (u.2.2.1 0)), .ref m21, .ref m22, .ref m23, .ref m24, .ref m25, .int (u.2.1 11 3), .int (u.2.1 11 4), .int (u.2.1 11 5), .int (u.2.1 11 6), .int (u.2.1 11 7), .ref m31, .ref m32, .ref m33, .ref m34, .ref m35, .ref m36, .ref m37, .long (u.1 9 0), .ref m39, .ref m40, .int (nI (u.2.2.1 1)), .ref m42])), (m39, zaI k 30 (u.2.1 10))]) rfl
  refine lv_iinc (v := 4) (lv' := [(3, .int 4), (2, .int (nI i)), (0, .ref o), (1, .int a)]) hx hb dX9_recall_36 hl (k := 0) rfl (by decide) (by decide) rfl (fun ls hl => ?_)
  refine lv_goto (tgt := 15) hx hb dX9_recall_39 (by decide) ?_
  refine lv_iload_n hx hb dX9_recall_15 rfl (lv_at hl 0 rfl) ?_
  refine lv_iconst (v := 4) hx hb dX9_recall_16 (by decide) ?_
  refine lv_icmp_ge (tgt := 42) hx hb dX9_recall_17 (by decide) (fun _ => ?_) (fun c => absurd (by decide) c)
  refine lv_iconst (v := 0) hx hb dX9_recall_42 (by decide) ?_
  have hP9 := hP.sub (ws' := [(o, .inr (8, [.ref m0, .ref m1, .ref m2, .ref m3, .ref m4, .ref m5, .ref m6, .ref m7, .ref m8, .ref m9, .ref m10, .ref m11, .ref m12, .long (u.1 8 0), .long (u.1 8 2), .int (u.2.1 11 0), .int (u.2.1 11 1), .int (u.2.1 11 2), .ref m18, .ref m19, .int (nI (u.2.2.1 0)), .ref m21, .ref m22, .ref m23, .ref m24, .ref m25, .int (u.2.1 11 3), .int (u.2.1 11 4), .int (u.2.1 11 5), .int (u.2.1 11 6), .int (u.2.1 11 7), .ref m31, .ref m32, .ref m33, .ref m34, .ref m35, .ref m36, .ref m37, .long (u.1 9 0), .ref m39, .ref m40, .int (nI (u.2.2.1 1)), .ref m42])), (m1, zaJ k 4 (pick (u.1 10) i)), (m39, zaI k 30 (u.2.1 10)), (m40, zaJ k 120 (u.1 10))]) [2, 0, 3, 1] rfl
  have hD9 := hD.sub (ws' := [(o, .inr (8, [.ref m0, .ref m1, .ref m2, .ref m3, .ref m4, .ref m5, .ref m6, .ref m7, .ref m8, .ref m9, .ref m10, .ref m11, .ref m12, .long (u.1 8 0), .long (u.1 8 2), .int (u.2.1 11 0), .int (u.2.1 11 1), .int (u.2.1 11 2), .ref m18, .ref m19, .int (nI (u.2.2.1 0)), .ref m21, .ref m22, .ref m23, .ref m24, .ref m25, .int (u.2.1 11 3), .int (u.2.1 11 4), .int (u.2.1 11 5), .int (u.2.1 11 6), .int (u.2.1 11 7), .ref m31, .ref m32, .ref m33, .ref m34, .ref m35, .ref m36, .ref m37, .long (u.1 9 0), .ref m39, .ref m40, .int (nI (u.2.2.1 1)), .ref m42])), (m1, zaJ k 4 (pick (u.1 10) i)), (m39, zaI k 30 (u.2.1 10)), (m40, zaJ k 120 (u.1 10))]) [2, 0, 3, 1] (by decide) rfl
  exact W.iret (v := 0) hx hb hr (fun t9 ht9 hW9 => ⟨⟨0, [(o, .inr (8, [.ref m0, .ref m1, .ref m2, .ref m3, .ref m4, .ref m5, .ref m6, .ref m7, .ref m8, .ref m9, .ref m10, .ref m11, .ref m12, .long (u.1 8 0), .long (u.1 8 2), .int (u.2.1 11 0), .int (u.2.1 11 1), .int (u.2.1 11 2), .ref m18, .ref m19, .int (nI (u.2.2.1 0)), .ref m21, .ref m22, .ref m23, .ref m24, .ref m25, .int (u.2.1 11 3), .int (u.2.1 11 4), .int (u.2.1 11 5), .int (u.2.1 11 6), .int (u.2.1 11 7), .ref m31, .ref m32, .ref m33, .ref m34, .ref m35, .ref m36, .ref m37, .long (u.1 9 0), .ref m39, .ref m40, .int (nI (u.2.2.1 1)), .ref m42])), (m1, zaJ k 4 (pick (u.1 10) i)), (m39, zaI k 30 (u.2.1 10)), (m40, zaJ k 120 (u.1 10))], rfl, ⟨rfl, rfl⟩, by rw [ht9]; exact hP9, hD9⟩, hS.F ht9⟩) hS.2.2 dX9_recall_43
