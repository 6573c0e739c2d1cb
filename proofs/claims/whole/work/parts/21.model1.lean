set_option maxHeartbeats 4000000 in
set_option maxRecDepth 100000 in
theorem c_X9_isIn (l : Launch) (D : va_G) (k : Nat → ClassId) (sz : Nat) (v a b : Int64) : Met l yX9_isIn wsX9_isIn ({ frames := 0, cells := 0, slots := 0, locals := 0 } : Room) (va_Pc [.long v, .long a, .long b] (zPre D k [] sz zX0)) (zQi D [] sz (zb (zinL v (Int64.toInt a) (Int64.toInt b))) (fun w : va_W => w = [])) 0 0 (va_A [] sz) := by
  refine Met.ofW (cc := cX9_isIn) (maxL := 6) (ret := (some .boolean)) (by decide) rfl ?_
  intro p e s m args below meth c s₁ B hml hv
  obtain ⟨rfl, hsz, hP, hK, hD0, hE⟩ := hv
  have hx := B.exec
  have hb := B.bytes
  have hr := B.returns
  have hts := atoms_spec (ws := wsX9_isIn) B.pre
  have hown : s.vm.findClass RX9 = some m.cls := findClass_of_methodNamed B.named
  have hlocks := B.notSynchronized
  subst hsz
  have hD := hD0.self (sz := s.heap.size)
  delta zQi zB
  generalize hAe : va_A [] s.heap.size = A at hD hE ⊢
  have hA : ∀ q : Nat, s.heap.size ≤ q → A q := fun q h => by rw [← hAe]; exact Or.inr h
  have hS : va_S A s.heap s.heap [] := va_S.rf
  have hl := lv_entry [.long v, .long a, .long b] (n := 6) (Nat.le_of_ble_eq_true rfl)
  rw [lg_entry_eq]
  generalize (lg_sl [.long v, .long a, .long b] ++ List.replicate (6 - (lg_sl [.long v, .long a, .long b]).length) Slot.unset).toArray = ls at hl ⊢
  have hl : lv_has ls 6 [(0, .long v), (2, .long a), (4, .long b)] := hl
  refine lv_lload_n hx hb dX9_isIn_0 rfl (lv_at hl 0 rfl) ?_
  refine lv_lload_n hx hb dX9_isIn_1 rfl (lv_at hl 1 rfl) ?_
  refine W.lcmp hx hb dX9_isIn_2 ?_
  refine lv_if_lt (tgt := 17) hx hb dX9_isIn_3 (by decide) (fun c_1 => ?_) (fun c_1 => ?_)
  · skip
    have c_1 : v.toInt < a.toInt := zltL ((lg_cmp_lt _ _).mp c_1) rfl rfl
    refine lv_iconst (v := 0) hx hb dX9_isIn_17 (by decide) ?_
    have hP9 := hP.sub (ws' := []) [] rfl
    have hD9 := hD.sub (ws' := []) [] (by decide) rfl
    exact W.zret (v := 0) hx hb hr rfl (fun t9 ht9 hW9 => ⟨⟨0, [], rfl, ⟨by (exact zb_f (zinL_f (by omega))), rfl⟩, by rw [ht9]; exact hP9, hD9⟩, hS.F ht9⟩) hS.2.2 dX9_isIn_18
  · skip
    have c_1 : a.toInt ≤ v.toInt := znltL (mt (lg_cmp_lt _ _).mpr c_1) rfl rfl
    refine lv_lload_n hx hb dX9_isIn_6 rfl (lv_at hl 0 rfl) ?_
    refine lv_lload hx hb dX9_isIn_7 (lv_at hl 2 rfl) ?_
    refine W.lcmp hx hb dX9_isIn_9 ?_
    refine lv_if_gt (tgt := 17) hx hb dX9_isIn_10 (by decide) (fun c_2 => ?_) (fun c_2 => ?_)
    · skip
      have c_2 : b.toInt < v.toInt := zltL ((lg_cmp_gt _ _).mp c_2) rfl rfl
      refine lv_iconst (v := 0) hx hb dX9_isIn_17 (by decide) ?_
      have hP9 := hP.sub (ws' := []) [] rfl
      have hD9 := hD.sub (ws' := []) [] (by decide) rfl
      exact W.zret (v := 0) hx hb hr rfl (fun t9 ht9 hW9 => ⟨⟨0, [], rfl, ⟨by (exact zb_f (zinL_f (by omega))), rfl⟩, by rw [ht9]; exact hP9, hD9⟩, hS.F ht9⟩) hS.2.2 dX9_isIn_18
    · skip
      have c_2 : v.toInt ≤ b.toInt := znltL (mt (lg_cmp_gt _ _).mpr c_2) rfl rfl
      refine lv_iconst (v := 1) hx hb dX9_isIn_13 (by decide) ?_
      refine lv_goto (tgt := 18) hx hb dX9_isIn_14 (by decide) ?_
      have hP9 := hP.sub (ws' := []) [] rfl
      have hD9 := hD.sub (ws' := []) [] (by decide) rfl
      exact W.zret (v := 1) hx hb hr rfl (fun t9 ht9 hW9 => ⟨⟨1, [], rfl, ⟨by (exact zb_t (zinL_t (by omega))), rfl⟩, by rw [ht9]; exact hP9, hD9⟩, hS.F ht9⟩) hS.2.2 dX9_isIn_18
set_option maxHeartbeats 4000000 in
set_option maxRecDepth 100000 in
theorem c_X9_isAxis (l : Launch) (D : va_G) (k : Nat → ClassId) (sz : Nat) (a : Int32) : Met l yX9_isAxis wsX9_isAxis ({ frames := 1, cells := 0, slots := 0, locals := 25 } : Room) (va_Pc [.int a] (zPre D k [] sz zX0)) (zQi D [] sz (zb (zin a 0 2)) (fun w : va_W => w = [])) 0 0 (va_A [] sz) := by
  refine Met.ofW (cc := cX9_isAxis) (maxL := 1) (ret := (some .boolean)) (by decide) rfl ?_
  intro p e s m args below meth c s₁ B hml hv
  obtain ⟨rfl, hsz, hP, hK, hD0, hE⟩ := hv
  have hx := B.exec
  have hb := B.bytes
  have hr := B.returns
  have hts := atoms_spec (ws := wsX9_isAxis) B.pre
  have hown : s.vm.findClass RX9 = some m.cls := findClass_of_methodNamed B.named
  have hlocks := B.notSynchronized
  subst hsz
  have hD := hD0.self (sz := s.heap.size)
  delta zQi zB
  generalize hAe : va_A [] s.heap.size = A at hD hE ⊢
  have hA : ∀ q : Nat, s.heap.size ≤ q → A q := fun q h => by rw [← hAe]; exact Or.inr h
  have hS : va_S A s.heap s.heap [] := va_S.rf
  have hl := lv_entry [.int a] (n := 1) (Nat.le_of_ble_eq_true rfl)
  rw [lg_entry_eq]
  generalize (lg_sl [.int a] ++ List.replicate (1 - (lg_sl [.int a]).length) Slot.unset).toArray = ls at hl ⊢
  have hl : lv_has ls 1 [(0, .int a)] := hl
  have hl105 : (Cond.constantLong RX9 105 (2)).before #[Value.int a] s = true := zw hts 1 rfl
  refine lv_iload_n hx hb dX9_isAxis_0 rfl (lv_at hl 0 rfl) ?_
  refine lv_i2l (v := a.toInt64) hx hb dX9_isAxis_1 rfl ?_
  refine lv_lconst (v := 0) hx hb dX9_isAxis_2 (by decide) ?_
  refine lv_ldc2 hx hb hown hl105 dX9_isAxis_3 ?_
  refine z_calli0 (wc := []) (wr := []) (va_runS (As := [.long a.toInt64, .long 0, .long 2]) (rest := []) ⟨hx, hb, hml, hown, hts⟩ (c_X9_isIn l D k s.heap.size a.toInt64 0 2) (va_cwS 3 hts gX9_isAxis_X9_isIn rfl rfl rfl (by decide +kernel) ⟨Nat.le_of_ble_eq_true rfl, Nat.le_of_ble_eq_true rfl⟩) (z_preS (wc := []) hP hD hK [] rfl rfl zb0 zp0) rfl rfl hl.1 rfl (lv_room (Nat.le_of_ble_eq_true rfl)) dX9_isAxis_6 ⟨Nat.zero_le _, Nat.zero_le _⟩) hP hD hS hA [] [] rfl rfl rfl (by decide) (fun w H locs hF hP hD hS => ?_)
  subst hF
  refine W.eq (g2 := F0 m 9 ls (.int (zb (zin a 0 2)) :: [])) (by rw [zLi a 0 2 (A := 0) (B := 2) (by decide) (by decide)]) ?_
  have hP9 := hP.sub (ws' := []) [] rfl
  have hD9 := hD.sub (ws' := []) [] (by decide) rfl
  exact W.zret (v := zb (zin a 0 2)) hx hb hr (zb_nar _) (fun t9 ht9 hW9 => ⟨⟨(zb (zin a 0 2)), [], rfl, ⟨rfl, rfl⟩, by rw [ht9]; exact hP9, hD9⟩, hS.F ht9⟩) hS.2.2 dX9_isAxis_9
set_option maxHeartbeats 4000000 in
set_option maxRecDepth 100000 in
theorem c_X9_floor (l : Launch) (D : va_G) (k : Nat → ClassId) (sz : Nat) (x y : Int64) (hy : ¬ y = 0) : Met l yX9_floor wsX9_floor ({ frames := 0, cells := 0, slots := 0, locals := 0 } : Room) (va_Pc [.long x, .long y] (zPre D k [] sz zX0)) (zQl D [] sz (fdiv x y) (fun w : va_W => w = [])) 0 0 (va_A [] sz) := by
  refine Met.ofW (cc := cX9_floor) (maxL := 6) (ret := (some .long)) (by decide) rfl ?_
  intro p e s m args below meth c s₁ B hml hv
  obtain ⟨rfl, hsz, hP, hK, hD0, hE⟩ := hv
  have hx := B.exec
  have hb := B.bytes
  have hr := B.returns
  have hts := atoms_spec (ws := wsX9_floor) B.pre
  have hown : s.vm.findClass RX9 = some m.cls := findClass_of_methodNamed B.named
  have hlocks := B.notSynchronized
  subst hsz
  have hD := hD0.self (sz := s.heap.size)
  delta zQl zB
  generalize hAe : va_A [] s.heap.size = A at hD hE ⊢
  have hA : ∀ q : Nat, s.heap.size ≤ q → A q := fun q h => by rw [← hAe]; exact Or.inr h
  have hS : va_S A s.heap s.heap [] := va_S.rf
  have hl := lv_entry [.long x, .long y] (n := 6) (Nat.le_of_ble_eq_true rfl)
  rw [lg_entry_eq]
  generalize (lg_sl [.long x, .long y] ++ List.replicate (6 - (lg_sl [.long x, .long y]).length) Slot.unset).toArray = ls at hl ⊢
  have hl : lv_has ls 6 [(0, .long x), (2, .long y)] := hl
  refine lv_lload_n hx hb dX9_floor_0 rfl (lv_at hl 0 rfl) ?_
  refine lv_lload_n hx hb dX9_floor_1 rfl (lv_at hl 1 rfl) ?_
  refine lv_ldiv hx hb dX9_floor_2 (by assumption) ?_
  refine lv_lstore (lv' := [(4, .long (x / y)), (0, .long x), (2, .long y)]) hx hb dX9_floor_3 hl (by decide) rfl (fun ls hl => ?_)
  refine lv_lload hx hb dX9_floor_5 (lv_at hl 0 rfl) ?_
  refine lv_lload_n hx hb dX9_floor_7 rfl (lv_at hl 2 rfl) ?_
  refine lv_lmul hx hb dX9_floor_8 ?_
  refine lv_lload_n hx hb dX9_floor_9 rfl (lv_at hl 1 rfl) ?_
  refine W.lcmp hx hb dX9_floor_10 ?_
  refine lv_if_eq (tgt := 46) hx hb dX9_floor_11 (by decide) (fun c_1 => ?_) (fun c_1 => ?_)
  · skip
    have c_1 := zlg_eq c_1
    refine lv_lload hx hb dX9_floor_46 (lv_at hl 0 rfl) ?_
    have hP9 := hP.sub (ws' := []) [] rfl
    have hD9 := hD.sub (ws' := []) [] (by decide) rfl
    exact W.lret (v := x / y) hx hb hr (fun t9 ht9 hW9 => ⟨⟨(x / y), [], rfl, ⟨by (first | exact fdiv_b (by assumption) | exact ff_pp (by assumption) (by assumption) | exact ff_nn (by assumption) (by assumption) | exact ff_pn (by assumption) (by assumption) (by assumption) | exact ff_np (by assumption) (by assumption) (by assumption)), rfl⟩, by rw [ht9]; exact hP9, hD9⟩, hS.F ht9⟩) hS.2.2 dX9_floor_48
  · skip
    have c_1 := zlg_ne c_1
    refine lv_lload_n hx hb dX9_floor_14 rfl (lv_at hl 1 rfl) ?_
    refine lv_lconst (v := 0) hx hb dX9_floor_15 (by decide) ?_
    refine W.lcmp hx hb dX9_floor_16 ?_
    refine lv_if_ge (tgt := 24) hx hb dX9_floor_17 (by decide) (fun c_2 => ?_) (fun c_2 => ?_)
    · skip
      have c_2 : 0 ≤ x.toInt := zleL ((lg_cmp_ge _ _).mp c_2) (by decide) rfl
      refine lv_iconst (v := 0) hx hb dX9_floor_24 (by decide) ?_
      refine lv_lload_n hx hb dX9_floor_25 rfl (lv_at hl 2 rfl) ?_
      refine lv_lconst (v := 0) hx hb dX9_floor_26 (by decide) ?_
      refine W.lcmp hx hb dX9_floor_27 ?_
      refine lv_if_ge (tgt := 35) hx hb dX9_floor_28 (by decide) (fun c_3 => ?_) (fun c_3 => ?_)
      · skip
        have c_3 : 0 ≤ y.toInt := zleL ((lg_cmp_ge _ _).mp c_3) (by decide) rfl
        refine lv_iconst (v := 0) hx hb dX9_floor_35 (by decide) ?_
        refine lv_icmp_eq (tgt := 46) hx hb dX9_floor_36 (by decide) (fun _ => ?_) (fun c => absurd (by decide) c)
        refine lv_lload hx hb dX9_floor_46 (lv_at hl 0 rfl) ?_
        have hP9 := hP.sub (ws' := []) [] rfl
        have hD9 := hD.sub (ws' := []) [] (by decide) rfl
        exact W.lret (v := x / y) hx hb hr (fun t9 ht9 hW9 => ⟨⟨(x / y), [], rfl, ⟨by (first | exact fdiv_b (by assumption) | exact ff_pp (by assumption) (by assumption) | exact ff_nn (by assumption) (by assumption) | exact ff_pn (by assumption) (by assumption) (by assumption) | exact ff_np (by assumption) (by assumption) (by assumption)), rfl⟩, by rw [ht9]; exact hP9, hD9⟩, hS.F ht9⟩) hS.2.2 dX9_floor_48
      · skip
        have c_3 : y.toInt < 0 := znleL (mt (lg_cmp_ge _ _).mpr c_3) (by decide) rfl
        refine lv_iconst (v := 1) hx hb dX9_floor_31 (by decide) ?_
        refine lv_goto (tgt := 36) hx hb dX9_floor_32 (by decide) ?_
        refine lv_icmp_eq (tgt := 46) hx hb dX9_floor_36 (by decide) (fun c => absurd c (by decide)) (fun _ => ?_)
        refine lv_lload hx hb dX9_floor_39 (lv_at hl 0 rfl) ?_
        refine lv_lconst (v := 1) hx hb dX9_floor_41 (by decide) ?_
        refine lv_lsub hx hb dX9_floor_42 ?_
        refine lv_goto (tgt := 48) hx hb dX9_floor_43 (by decide) ?_
        have hP9 := hP.sub (ws' := []) [] rfl
        have hD9 := hD.sub (ws' := []) [] (by decide) rfl
        exact W.lret (v := (x / y) - 1) hx hb hr (fun t9 ht9 hW9 => ⟨⟨((x / y) - 1), [], rfl, ⟨by (first | exact fdiv_b (by assumption) | exact ff_pp (by assumption) (by assumption) | exact ff_nn (by assumption) (by assumption) | exact ff_pn (by assumption) (by assumption) (by assumption) | exact ff_np (by assumption) (by assumption) (by assumption)), rfl⟩, by rw [ht9]; exact hP9, hD9⟩, hS.F ht9⟩) hS.2.2 dX9_floor_48
    · skip
      have c_2 : x.toInt < 0 := znleL (mt (lg_cmp_ge _ _).mpr c_2) (by decide) rfl
      refine lv_iconst (v := 1) hx hb dX9_floor_20 (by decide) ?_
      refine lv_goto (tgt := 25) hx hb dX9_floor_21 (by decide) ?_
      refine lv_lload_n hx hb dX9_floor_25 rfl (lv_at hl 2 rfl) ?_
      refine lv_lconst (v := 0) hx hb dX9_floor_26 (by decide) ?_
      refine W.lcmp hx hb dX9_floor_27 ?_
      refine lv_if_ge (tgt := 35) hx hb dX9_floor_28 (by decide) (fun c_4 => ?_) (fun c_4 => ?_)
      · skip
        have c_4 : 0 ≤ y.toInt := zleL ((lg_cmp_ge _ _).mp c_4) (by decide) rfl
        refine lv_iconst (v := 0) hx hb dX9_floor_35 (by decide) ?_
        refine lv_icmp_eq (tgt := 46) hx hb dX9_floor_36 (by decide) (fun c => absurd c (by decide)) (fun _ => ?_)
        refine lv_lload hx hb dX9_floor_39 (lv_at hl 0 rfl) ?_
        refine lv_lconst (v := 1) hx hb dX9_floor_41 (by decide) ?_
        refine lv_lsub hx hb dX9_floor_42 ?_
        refine lv_goto (tgt := 48) hx hb dX9_floor_43 (by decide) ?_
        have hP9 := hP.sub (ws' := []) [] rfl
        have hD9 := hD.sub (ws' := []) [] (by decide) rfl
        exact W.lret (v := (x / y) - 1) hx hb hr (fun t9 ht9 hW9 => ⟨⟨((x / y) - 1), [], rfl, ⟨by (first | exact fdiv_b (by assumption) | exact ff_pp (by assumption) (by assumption) | exact ff_nn (by assumption) (by assumption) | exact ff_pn (by assumption) (by assumption) (by assumption) | exact ff_np (by assumption) (by assumption) (by assumption)), rfl⟩, by rw [ht9]; exact hP9, hD9⟩, hS.F ht9⟩) hS.2.2 dX9_floor_48
      · skip
        have c_4 : y.toInt < 0 := znleL (mt (lg_cmp_ge _ _).mpr c_4) (by decide) rfl
        refine lv_iconst (v := 1) hx hb dX9_floor_31 (by decide) ?_
        refine lv_goto (tgt := 36) hx hb dX9_floor_32 (by decide) ?_
        refine lv_icmp_eq (tgt := 46) hx hb dX9_floor_36 (by decide) (fun _ => ?_) (fun c => absurd (by decide) c)
        refine lv_lload hx hb dX9_floor_46 (lv_at hl 0 rfl) ?_
        have hP9 := hP.sub (ws' := []) [] rfl
        have hD9 := hD.sub (ws' := []) [] (by decide) rfl
        exact W.lret (v := x / y) hx hb hr (fun t9 ht9 hW9 => ⟨⟨(x / y), [], rfl, ⟨by (first | exact fdiv_b (by assumption) | exact ff_pp (by assumption) (by assumption) | exact ff_nn (by assumption) (by assumption) | exact ff_pn (by assumption) (by assumption) (by assumption) | exact ff_np (by assumption) (by assumption) (by assumption)), rfl⟩, by rw [ht9]; exact hP9, hD9⟩, hS.F ht9⟩) hS.2.2 dX9_floor_48
set_option maxHeartbeats 4000000 in
set_option maxRecDepth 100000 in
theorem c_X9_root (l : Launch) (D : va_G) (k : Nat → ClassId) (sz : Nat) (a : Int64) : Met l yX9_root wsX9_root ({ frames := 0, cells := 0, slots := 0, locals := 0 } : Room) (va_Pc [.long a] (zPre D k [] sz zX0)) (zQl D [] sz (isq a) (fun w : va_W => w = [])) 0 0 (va_A [] sz) := by
  refine Met.ofW (cc := cX9_root) (maxL := 8) (ret := (some .long)) (by decide) rfl ?_
  intro p e s m args below meth c s₁ B hml hv
  obtain ⟨rfl, hsz, hP, hK, hD0, hE⟩ := hv
  have hx := B.exec
  have hb := B.bytes
  have hr := B.returns
  have hts := atoms_spec (ws := wsX9_root) B.pre
  have hown : s.vm.findClass RX9 = some m.cls := findClass_of_methodNamed B.named
  have hlocks := B.notSynchronized
  subst hsz
  have hD := hD0.self (sz := s.heap.size)
  delta zQl zB
  generalize hAe : va_A [] s.heap.size = A at hD hE ⊢
  have hA : ∀ q : Nat, s.heap.size ≤ q → A q := fun q h => by rw [← hAe]; exact Or.inr h
  have hS : va_S A s.heap s.heap [] := va_S.rf
  have hl := lv_entry [.long a] (n := 8) (Nat.le_of_ble_eq_true rfl)
  rw [lg_entry_eq]
  generalize (lg_sl [.long a] ++ List.replicate (8 - (lg_sl [.long a]).length) Slot.unset).toArray = ls at hl ⊢
  have hl : lv_has ls 8 [(0, .long a)] := hl
  have hl111 : (Cond.constantLong RX9 111 (3037000499)).before #[Value.long a] s = true := zw hts 1 rfl
  have hl105 : (Cond.constantLong RX9 105 (2)).before #[Value.long a] s = true := zw hts 2 rfl
  refine lv_lconst (v := 0) hx hb dX9_root_0 (by decide) ?_
  refine lv_lstore_n (lv' := [(2, .long 0), (0, .long a)]) hx hb dX9_root_1 rfl hl (by decide) rfl (fun ls hl => ?_)
  refine lv_ldc2 hx hb hown hl111 dX9_root_2 ?_
  refine lv_lstore (lv' := [(4, .long 3037000499), (2, .long 0), (0, .long a)]) hx hb dX9_root_5 hl (by decide) rfl (fun ls hl => ?_)
  have hl : lv_has ls 8 [(4, .long 3037000499), (2, .long (lN 0)), (0, .long a)] := hl
  have hl : lv_has ls 8 [(4, .long (lN 3037000499)), (2, .long (lN 0)), (0, .long a)] := hl
  refine z_loop (St := Nat × Nat) (fun st9 => mr_inv a.toInt st9.1 st9.2) (fun st9 => []) (fun st9 => [(0, .long a), (2, .long (lN st9.1)), (4, .long (lN st9.2))]) (fun st9 => st9.2 - st9.1) (0, 3037000499) mr_0 hP hD hS (lv_sub hl [2, 1, 0] rfl) ?_
  intro st9 hj_7 H locs ls hP hD hS hl ih_7
  obtain ⟨lo, hi⟩ := st9
  have hj_7 : mr_inv a.toInt lo hi := hj_7
  have hP : va_P D vwCl [] H := hP
  have hD : va_D A [] := hD
  have hl : lv_has ls 8 [(0, .long a), (2, .long (lN lo)), (4, .long (lN hi))] := hl
  have hj1 := hj_7.1
  have hj2 := hj_7.2.1
  refine lv_lload_n hx hb dX9_root_7 rfl (lv_at hl 1 rfl) ?_
  refine lv_lload hx hb dX9_root_8 (lv_at hl 2 rfl) ?_
  refine W.lcmp hx hb dX9_root_10 ?_
  refine lv_if_ge (tgt := 51) hx hb dX9_root_11 (by decide) (fun c_1 => ?_) (fun c_1 => ?_)
  · skip
    have c_1 : (lN hi).toInt ≤ (lN lo).toInt := zleL ((lg_cmp_ge _ _).mp c_1) rfl rfl
    refine lv_lload_n hx hb dX9_root_51 rfl (lv_at hl 1 rfl) ?_
    have hP9 := hP.sub (ws' := []) [] rfl
    have hD9 := hD.sub (ws' := []) [] (by decide) rfl
    exact W.lret (v := lN lo) hx hb hr (fun t9 ht9 hW9 => ⟨⟨(lN lo), [], rfl, ⟨by (exact mr_end hj_7 (mr_d (by omega) (by omega) c_1)), rfl⟩, by rw [ht9]; exact hP9, hD9⟩, hS.F ht9⟩) hS.2.2 dX9_root_52
  · skip
    have c_1 : (lN lo).toInt < (lN hi).toInt := znleL (mt (lg_cmp_ge _ _).mpr c_1) rfl rfl
    refine lv_lload_n hx hb dX9_root_14 rfl (lv_at hl 1 rfl) ?_
    refine lv_lload hx hb dX9_root_15 (lv_at hl 2 rfl) ?_
    refine lv_ladd hx hb dX9_root_17 ?_
    refine lv_lconst (v := 1) hx hb dX9_root_18 (by decide) ?_
    refine lv_ladd hx hb dX9_root_19 ?_
    refine lv_ldc2 hx hb hown hl105 dX9_root_20 ?_
    refine lv_ldiv hx hb dX9_root_23 (by decide) ?_
    refine lv_topl (fun x_2 ex_2 => ?_)
    refine lv_lstore (lv' := [(6, .long x_2), (0, .long a), (2, .long (lN lo)), (4, .long (lN hi))]) hx hb dX9_root_24 hl (by decide) rfl (fun ls hl => ?_)
    have hlt : lo < hi := mr_c (by omega) (by omega) c_1
    obtain rfl : x_2 = lN ((lo + hi + 1) / 2) := by rw [ex_2]; exact mr_m (by omega) (by omega)
    have hl : lv_has ls 8 [(6, .long (lN ((lo + hi + 1) / 2))), (0, .long a), (2, .long (lN lo)), (4, .long (lN hi))] := hl
    refine lv_lload hx hb dX9_root_26 (lv_at hl 0 rfl) ?_
    refine lv_lload hx hb dX9_root_28 (lv_at hl 0 rfl) ?_
    refine lv_lmul hx hb dX9_root_30 ?_
    refine lv_lload_n hx hb dX9_root_31 rfl (lv_at hl 1 rfl) ?_
    refine W.lcmp hx hb dX9_root_32 ?_
    refine lv_if_gt (tgt := 42) hx hb dX9_root_33 (by decide) (fun c_3 => ?_) (fun c_3 => ?_)
    · skip
      have c_3 : a.toInt < ((lN ((lo + hi + 1) / 2)) * (lN ((lo + hi + 1) / 2))).toInt := zltL ((lg_cmp_gt _ _).mp c_3) rfl rfl
      refine lv_lload hx hb dX9_root_42 (lv_at hl 0 rfl) ?_
      refine lv_lconst (v := 1) hx hb dX9_root_44 (by decide) ?_
      refine lv_lsub hx hb dX9_root_45 ?_
      refine lv_topl (fun x_4 ex_4 => ?_)
      refine lv_lstore (lv' := [(4, .long x_4), (6, .long (lN ((lo + hi + 1) / 2))), (0, .long a), (2, .long (lN lo))]) hx hb dX9_root_46 hl (by decide) rfl (fun ls hl => ?_)
      refine lv_goto (tgt := 7) hx hb dX9_root_48 (by decide) ?_
      obtain rfl : x_4 = lN ((lo + hi + 1) / 2 - 1) := by rw [ex_4]; exact mr_s (by omega)
      have hl : lv_has ls 8 [(4, .long (lN ((lo + hi + 1) / 2 - 1))), (6, .long (lN ((lo + hi + 1) / 2))), (0, .long a), (2, .long (lN lo))] := hl
      exact ih_7 (lo, (lo + hi + 1) / 2 - 1) (mr_dn hj_7 hlt (by assumption)) (by dsimp only; omega) _ _ _ hP hD hS (lv_sub hl [2, 3, 0] rfl)
    · skip
      have c_3 : ((lN ((lo + hi + 1) / 2)) * (lN ((lo + hi + 1) / 2))).toInt ≤ a.toInt := znltL (mt (lg_cmp_gt _ _).mpr c_3) rfl rfl
      refine lv_lload hx hb dX9_root_36 (lv_at hl 0 rfl) ?_
      refine lv_lstore_n (lv' := [(2, .long (lN ((lo + hi + 1) / 2))), (6, .long (lN ((lo + hi + 1) / 2))), (0, .long a), (4, .long (lN hi))]) hx hb dX9_root_38 rfl hl (by decide) rfl (fun ls hl => ?_)
      refine lv_goto (tgt := 48) hx hb dX9_root_39 (by decide) ?_
      refine lv_goto (tgt := 7) hx hb dX9_root_48 (by decide) ?_
      exact ih_7 ((lo + hi + 1) / 2, hi) (mr_up hj_7 hlt (by assumption)) (by dsimp only; omega) _ _ _ hP hD hS (lv_sub hl [2, 0, 3] rfl)
set_option maxHeartbeats 4000000 in
set_option maxRecDepth 100000 in
theorem c_X9_limited (l : Launch) (D : va_G) (k : Nat → ClassId) (sz : Nat) (v lm : Int64) (hlm : 0 ≤ lm.toInt) : Met l yX9_limited wsX9_limited ({ frames := 0, cells := 0, slots := 0, locals := 0 } : Room) (va_Pc [.long v, .long lm] (zPre D k [] sz zX0)) (zQl D [] sz (zlim v lm) (fun w : va_W => w = [])) 0 0 (va_A [] sz) := by
  refine Met.ofW (cc := cX9_limited) (maxL := 4) (ret := (some .long)) (by decide) rfl ?_
  intro p e s m args below meth c s₁ B hml hv
  obtain ⟨rfl, hsz, hP, hK, hD0, hE⟩ := hv
  have hx := B.exec
  have hb := B.bytes
  have hr := B.returns
  have hts := atoms_spec (ws := wsX9_limited) B.pre
  have hown : s.vm.findClass RX9 = some m.cls := findClass_of_methodNamed B.named
  have hlocks := B.notSynchronized
  subst hsz
  have hD := hD0.self (sz := s.heap.size)
  delta zQl zB
  generalize hAe : va_A [] s.heap.size = A at hD hE ⊢
  have hA : ∀ q : Nat, s.heap.size ≤ q → A q := fun q h => by rw [← hAe]; exact Or.inr h
  have hS : va_S A s.heap s.heap [] := va_S.rf
  have hl := lv_entry [.long v, .long lm] (n := 4) (Nat.le_of_ble_eq_true rfl)
  rw [lg_entry_eq]
  generalize (lg_sl [.long v, .long lm] ++ List.replicate (4 - (lg_sl [.long v, .long lm]).length) Slot.unset).toArray = ls at hl ⊢
  have hl : lv_has ls 4 [(0, .long v), (2, .long lm)] := hl
  refine lv_lload_n hx hb dX9_limited_0 rfl (lv_at hl 0 rfl) ?_
  refine lv_lload_n hx hb dX9_limited_1 rfl (lv_at hl 1 rfl) ?_
  refine W.lcmp hx hb dX9_limited_2 ?_
  refine lv_if_le (tgt := 10) hx hb dX9_limited_3 (by decide) (fun c_1 => ?_) (fun c_1 => ?_)
  · skip
    have c_1 : v.toInt ≤ lm.toInt := zleL ((lg_cmp_le _ _).mp c_1) rfl rfl
    refine lv_lload_n hx hb dX9_limited_10 rfl (lv_at hl 0 rfl) ?_
    refine lv_lload_n hx hb dX9_limited_11 rfl (lv_at hl 1 rfl) ?_
    refine lv_lneg hx hb dX9_limited_12 ?_
    refine W.lcmp hx hb dX9_limited_13 ?_
    refine lv_if_ge (tgt := 22) hx hb dX9_limited_14 (by decide) (fun c_2 => ?_) (fun c_2 => ?_)
    · skip
      have c_2 : (-lm).toInt ≤ v.toInt := zleL ((lg_cmp_ge _ _).mp c_2) rfl rfl
      refine lv_lload_n hx hb dX9_limited_22 rfl (lv_at hl 0 rfl) ?_
      have hP9 := hP.sub (ws' := []) [] rfl
      have hD9 := hD.sub (ws' := []) [] (by decide) rfl
      exact W.lret (v := v) hx hb hr (fun t9 ht9 hW9 => ⟨⟨v, [], rfl, ⟨by (exact lim_c (by assumption) (by assumption)), rfl⟩, by rw [ht9]; exact hP9, hD9⟩, hS.F ht9⟩) hS.2.2 dX9_limited_23
    · skip
      have c_2 : v.toInt < (-lm).toInt := znleL (mt (lg_cmp_ge _ _).mpr c_2) rfl rfl
      refine lv_lload_n hx hb dX9_limited_17 rfl (lv_at hl 1 rfl) ?_
      refine lv_lneg hx hb dX9_limited_18 ?_
      refine lv_goto (tgt := 23) hx hb dX9_limited_19 (by decide) ?_
      have hP9 := hP.sub (ws' := []) [] rfl
      have hD9 := hD.sub (ws' := []) [] (by decide) rfl
      exact W.lret (v := -lm) hx hb hr (fun t9 ht9 hW9 => ⟨⟨(-lm), [], rfl, ⟨by (exact lim_b hlm (by assumption)), rfl⟩, by rw [ht9]; exact hP9, hD9⟩, hS.F ht9⟩) hS.2.2 dX9_limited_23
  · skip
    have c_1 : lm.toInt < v.toInt := znleL (mt (lg_cmp_le _ _).mpr c_1) rfl rfl
    refine lv_lload_n hx hb dX9_limited_6 rfl (lv_at hl 1 rfl) ?_
    refine lv_goto (tgt := 23) hx hb dX9_limited_7 (by decide) ?_
    have hP9 := hP.sub (ws' := []) [] rfl
    have hD9 := hD.sub (ws' := []) [] (by decide) rfl
    exact W.lret (v := lm) hx hb hr (fun t9 ht9 hW9 => ⟨⟨lm, [], rfl, ⟨by (exact lim_a hlm (by assumption)), rfl⟩, by rw [ht9]; exact hP9, hD9⟩, hS.F ht9⟩) hS.2.2 dX9_limited_23
set_option maxHeartbeats 4000000 in
set_option maxRecDepth 100000 in
theorem c_X9_multiply (l : Launch) (D : va_G) (k : Nat → ClassId) (sz : Nat) (o m0 m1 m2 m3 m4 m5 m6 m7 m8 m9 m10 m11 m12 m18 m19 m21 m22 m23 m24 m25 m31 m32 m33 m34 m35 m36 m37 m39 m40 m42 : Nat) (z13 z14 z38 : Int64) (z15 z16 z17 z20 z26 z27 z28 z29 z30 z41 : Int32) (pa qa : Nat) (fu fv f3 : Nat → Int64) : Met l yX9_multiply wsX9_multiply ({ frames := 0, cells := 0, slots := 0, locals := 0 } : Room) (va_Pc [.ref o, .ref pa, .ref qa] (zPre D k [(o, .inr (8, [.ref m0, .ref m1, .ref m2, .ref m3, .ref m4, .ref m5, .ref m6, .ref m7, .ref m8, .ref m9, .ref m10, .ref m11, .ref m12, .long z13, .long z14, .int z15, .int z16, .int z17, .ref m18, .ref m19, .int z20, .ref m21, .ref m22, .ref m23, .ref m24, .ref m25, .int z26, .int z27, .int z28, .int z29, .int z30, .ref m31, .ref m32, .ref m33, .ref m34, .ref m35, .ref m36, .ref m37, .long z38, .ref m39, .ref m40, .int z41, .ref m42])), (pa, zaJ k 4 fu), (qa, zaJ k 4 fv), (m3, zaJ k 4 f3)] sz zX0)) (zQv D [(o, .inr (8, [.ref m0, .ref m1, .ref m2, .ref m3, .ref m4, .ref m5, .ref m6, .ref m7, .ref m8, .ref m9, .ref m10, .ref m11, .ref m12, .long z13, .long z14, .int z15, .int z16, .int z17, .ref m18, .ref m19, .int z20, .ref m21, .ref m22, .ref m23, .ref m24, .ref m25, .int z26, .int z27, .int z28, .int z29, .int z30, .ref m31, .ref m32, .ref m33, .ref m34, .ref m35, .ref m36, .ref m37, .long z38, .ref m39, .ref m40, .int z41, .ref m42])), (pa, zaJ k 4 fu), (qa, zaJ k 4 fv), (m3, zaJ k 4 f3)] sz (fun w : va_W => w = [(o, .inr (8, [.ref m0, .ref m1, .ref m2, .ref m3, .ref m4, .ref m5, .ref m6, .ref m7, .ref m8, .ref m9, .ref m10, .ref m11, .ref m12, .long z13, .long z14, .int z15, .int z16, .int z17, .ref m18, .ref m19, .int z20, .ref m21, .ref m22, .ref m23, .ref m24, .ref m25, .int z26, .int z27, .int z28, .int z29, .int z30, .ref m31, .ref m32, .ref m33, .ref m34, .ref m35, .ref m36, .ref m37, .long z38, .ref m39, .ref m40, .int z41, .ref m42])), (pa, zaJ k 4 fu), (qa, zaJ k 4 fv), (m3, zaJ k 4 (qmul fu fv))])) 0 0 (va_A [(o, .inr (8, [.ref m0, .ref m1, .ref m2, .ref m3, .ref m4, .ref m5, .ref m6, .ref m7, .ref m8, .ref m9, .ref m10, .ref m11, .ref m12, .long z13, .long z14, .int z15, .int z16, .int z17, .ref m18, .ref m19, .int z20, .ref m21, .ref m22, .ref m23, .ref m24, .ref m25, .int z26, .int z27, .int z28, .int z29, .int z30, .ref m31, .ref m32, .ref m33, .ref m34, .ref m35, .ref m36, .ref m37, .long z38, .ref m39, .ref m40, .int z41, .ref m42])), (pa, zaJ k 4 fu), (qa, zaJ k 4 fv), (m3, zaJ k 4 f3)] sz) := by
  refine Met.ofW (cc := cX9_multiply) (maxL := 3) (ret := none) (by decide) rfl ?_
  intro p e s m args below meth c s₁ B hml hv
  obtain ⟨rfl, hsz, hP, hK, hD0, hE⟩ := hv
  have hx := B.exec
  have hb := B.bytes
  have hr := B.returns
  have hts := atoms_spec (ws := wsX9_multiply) B.pre
  have hown : s.vm.findClass RX9 = some m.cls := findClass_of_methodNamed B.named
  have hlocks := B.notSynchronized
  subst hsz
  have hD := hD0.self (sz := s.heap.size)
  delta zQv zB
  generalize hAe : va_A [(o, .inr (8, [.ref m0, .ref m1, .ref m2, .ref m3, .ref m4, .ref m5, .ref m6, .ref m7, .ref m8, .ref m9, .ref m10, .ref m11, .ref m12, .long z13, .long z14, .int z15, .int z16, .int z17, .ref m18, .ref m19, .int z20, .ref m21, .ref m22, .ref m23, .ref m24, .ref m25, .int z26, .int z27, .int z28, .int z29, .int z30, .ref m31, .ref m32, .ref m33, .ref m34, .ref m35, .ref m36, .ref m37, .long z38, .ref m39, .ref m40, .int z41, .ref m42])), (pa, zaJ k 4 fu), (qa, zaJ k 4 fv), (m3, zaJ k 4 f3)] s.heap.size = A at hD hE ⊢
  have hA : ∀ q : Nat, s.heap.size ≤ q → A q := fun q h => by rw [← hAe]; exact Or.inr h
  have hS : va_S A s.heap s.heap [] := va_S.rf
  have hl := lv_entry [.ref o, .ref pa, .ref qa] (n := 3) (Nat.le_of_ble_eq_true rfl)
  rw [lg_entry_eq]
  generalize (lg_sl [.ref o, .ref pa, .ref qa] ++ List.replicate (3 - (lg_sl [.ref o, .ref pa, .ref qa]).length) Slot.unset).toArray = ls at hl ⊢
  have hl : lv_has ls 3 [(0, .ref o), (1, .ref pa), (2, .ref qa)] := hl
  have hl19 : (Cond.fieldLink RX9 19 "InertialReferenceModel" "product" "[J").before #[Value.ref o, Value.ref pa, Value.ref qa] s = true := zw hts 1 rfl
  have hinX9 : ∀ w ∈ u_ws RX9 TX9 43, w ∈ wsX9_multiply := fun w h => List.mem_cons_of_mem _ (List.mem_append_right _ h)
  refine lv_aload_n hx hb dX9_multiply_0 rfl (lv_at hl 0 rfl) ?_
  refine va_get (D := D) (ci := 8) (v := .ref m3) (C := RX9) (T := TX9) (N := 43) hx hb hts hinX9 hown hK hP 0 rfl rfl 3 (Nat.le_of_ble_eq_true rfl) hl19 (fun _ h9 => h9) rfl dX9_multiply_1 ?_
  refine lv_iconst (v := 0) hx hb dX9_multiply_4 (by decide) ?_
  refine lv_aload_n hx hb dX9_multiply_5 rfl (lv_at hl 1 rfl) ?_
  refine lv_iconst (v := 0) hx hb dX9_multiply_6 (by decide) ?_
  refine z_lald hx hb hK hP 1 rfl 0 zx0 (by decide) (v := fu 0) rfl dX9_multiply_7 ?_
  refine lv_aload_n hx hb dX9_multiply_8 rfl (lv_at hl 2 rfl) ?_
  refine lv_iconst (v := 0) hx hb dX9_multiply_9 (by decide) ?_
  refine z_lald hx hb hK hP 2 rfl 0 zx0 (by decide) (v := fv 0) rfl dX9_multiply_10 ?_
  refine lv_lmul hx hb dX9_multiply_11 ?_
  refine lv_aload_n hx hb dX9_multiply_12 rfl (lv_at hl 1 rfl) ?_
  refine lv_iconst (v := 1) hx hb dX9_multiply_13 (by decide) ?_
  refine z_lald hx hb hK hP 1 rfl 1 zx1 (by decide) (v := fu 1) rfl dX9_multiply_14 ?_
  refine lv_aload_n hx hb dX9_multiply_15 rfl (lv_at hl 2 rfl) ?_
  refine lv_iconst (v := 1) hx hb dX9_multiply_16 (by decide) ?_
  refine z_lald hx hb hK hP 2 rfl 1 zx1 (by decide) (v := fv 1) rfl dX9_multiply_17 ?_
  refine lv_lmul hx hb dX9_multiply_18 ?_
  refine lv_lsub hx hb dX9_multiply_19 ?_
  refine lv_aload_n hx hb dX9_multiply_20 rfl (lv_at hl 1 rfl) ?_
  refine lv_iconst (v := 2) hx hb dX9_multiply_21 (by decide) ?_
  refine z_lald hx hb hK hP 1 rfl 2 zx2 (by decide) (v := fu 2) rfl dX9_multiply_22 ?_
  refine lv_aload_n hx hb dX9_multiply_23 rfl (lv_at hl 2 rfl) ?_
  refine lv_iconst (v := 2) hx hb dX9_multiply_24 (by decide) ?_
  refine z_lald hx hb hK hP 2 rfl 2 zx2 (by decide) (v := fv 2) rfl dX9_multiply_25 ?_
  refine lv_lmul hx hb dX9_multiply_26 ?_
  refine lv_lsub hx hb dX9_multiply_27 ?_
  refine lv_aload_n hx hb dX9_multiply_28 rfl (lv_at hl 1 rfl) ?_
  refine lv_iconst (v := 3) hx hb dX9_multiply_29 (by decide) ?_
  refine z_lald hx hb hK hP 1 rfl 3 zx3 (by decide) (v := fu 3) rfl dX9_multiply_30 ?_
  refine lv_aload_n hx hb dX9_multiply_31 rfl (lv_at hl 2 rfl) ?_
  refine lv_iconst (v := 3) hx hb dX9_multiply_32 (by decide) ?_
  refine z_lald hx hb hK hP 2 rfl 3 zx3 (by decide) (v := fv 3) rfl dX9_multiply_33 ?_
  refine lv_lmul hx hb dX9_multiply_34 ?_
  refine lv_lsub hx hb dX9_multiply_35 ?_
  refine lv_bipush (v := 28) hx hb dX9_multiply_36 (by decide) ?_
  refine lv_lshr (v := sar (((((fu 0) * (fv 0)) - ((fu 1) * (fv 1))) - ((fu 2) * (fv 2))) - ((fu 3) * (fv 3))) 28) hx hb dX9_multiply_38 rfl ?_
  refine z_last hx hb hK hP hD hS 3 rfl 0 zx0 (by decide) (ws' := [(o, .inr (8, [.ref m0, .ref m1, .ref m2, .ref m3, .ref m4, .ref m5, .ref m6, .ref m7, .ref m8, .ref m9, .ref m10, .ref m11, .ref m12, .long z13, .long z14, .int z15, .int z16, .int z17, .ref m18, .ref m19, .int z20, .ref m21, .ref m22, .ref m23, .ref m24, .ref m25, .int z26, .int z27, .int z28, .int z29, .int z30, .ref m31, .ref m32, .ref m33, .ref m34, .ref m35, .ref m36, .ref m37, .long z38, .ref m39, .ref m40, .int z41, .ref m42])), (pa, zaJ k 4 fu), (qa, zaJ k 4 fv), (m3, zaJ k 4 (vp_updL f3 0 (sar (((((fu 0) * (fv 0)) - ((fu 1) * (fv 1))) - ((fu 2) * (fv 2))) - ((fu 3) * (fv 3))) 28)))]) rfl dX9_multiply_39 (fun H locs hP hD hS => ?_)
  refine lv_aload_n hx hb dX9_multiply_40 rfl (lv_at hl 0 rfl) ?_
  refine va_get (D := D) (ci := 8) (v := .ref m3) (C := RX9) (T := TX9) (N := 43) hx hb hts hinX9 hown hK hP 0 rfl rfl 3 (Nat.le_of_ble_eq_true rfl) hl19 (fun _ h9 => h9) rfl dX9_multiply_41 ?_
  refine lv_iconst (v := 1) hx hb dX9_multiply_44 (by decide) ?_
  refine lv_aload_n hx hb dX9_multiply_45 rfl (lv_at hl 1 rfl) ?_
  refine lv_iconst (v := 0) hx hb dX9_multiply_46 (by decide) ?_
  refine z_lald hx hb hK hP 1 rfl 0 zx0 (by decide) (v := fu 0) rfl dX9_multiply_47 ?_
  refine lv_aload_n hx hb dX9_multiply_48 rfl (lv_at hl 2 rfl) ?_
  refine lv_iconst (v := 1) hx hb dX9_multiply_49 (by decide) ?_
  refine z_lald hx hb hK hP 2 rfl 1 zx1 (by decide) (v := fv 1) rfl dX9_multiply_50 ?_
  refine lv_lmul hx hb dX9_multiply_51 ?_
  refine lv_aload_n hx hb dX9_multiply_52 rfl (lv_at hl 1 rfl) ?_
  refine lv_iconst (v := 1) hx hb dX9_multiply_53 (by decide) ?_
  refine z_lald hx hb hK hP 1 rfl 1 zx1 (by decide) (v := fu 1) rfl dX9_multiply_54 ?_
  refine lv_aload_n hx hb dX9_multiply_55 rfl (lv_at hl 2 rfl) ?_
  refine lv_iconst (v := 0) hx hb dX9_multiply_56 (by decide) ?_
  refine z_lald hx hb hK hP 2 rfl 0 zx0 (by decide) (v := fv 0) rfl dX9_multiply_57 ?_
  refine lv_lmul hx hb dX9_multiply_58 ?_
  refine lv_ladd hx hb dX9_multiply_59 ?_
  refine lv_aload_n hx hb dX9_multiply_60 rfl (lv_at hl 1 rfl) ?_
  refine lv_iconst (v := 2) hx hb dX9_multiply_61 (by decide) ?_
  refine z_lald hx hb hK hP 1 rfl 2 zx2 (by decide) (v := fu 2) rfl dX9_multiply_62 ?_
  refine lv_aload_n hx hb dX9_multiply_63 rfl (lv_at hl 2 rfl) ?_
  refine lv_iconst (v := 3) hx hb dX9_multiply_64 (by decide) ?_
  refine z_lald hx hb hK hP 2 rfl 3 zx3 (by decide) (v := fv 3) rfl dX9_multiply_65 ?_
  refine lv_lmul hx hb dX9_multiply_66 ?_
  refine lv_ladd hx hb dX9_multiply_67 ?_
  refine lv_aload_n hx hb dX9_multiply_68 rfl (lv_at hl 1 rfl) ?_
  refine lv_iconst (v := 3) hx hb dX9_multiply_69 (by decide) ?_
  refine z_lald hx hb hK hP 1 rfl 3 zx3 (by decide) (v := fu 3) rfl dX9_multiply_70 ?_
  refine lv_aload_n hx hb dX9_multiply_71 rfl (lv_at hl 2 rfl) ?_
  refine lv_iconst (v := 2) hx hb dX9_multiply_72 (by decide) ?_
  refine z_lald hx hb hK hP 2 rfl 2 zx2 (by decide) (v := fv 2) rfl dX9_multiply_73 ?_
  refine lv_lmul hx hb dX9_multiply_74 ?_
  refine lv_lsub hx hb dX9_multiply_75 ?_
  refine lv_bipush (v := 28) hx hb dX9_multiply_76 (by decide) ?_
  refine lv_lshr (v := sar (((((fu 0) * (fv 1)) + ((fu 1) * (fv 0))) + ((fu 2) * (fv 3))) - ((fu 3) * (fv 2))) 28) hx hb dX9_multiply_78 rfl ?_
  refine z_last hx hb hK hP hD hS 3 rfl 1 zx1 (by decide) (ws' := [(o, .inr (8, [.ref m0, .ref m1, .ref m2, .ref m3, .ref m4, .ref m5, .ref m6, .ref m7, .ref m8, .ref m9, .ref m10, .ref m11, .ref m12, .long z13, .long z14, .int z15, .int z16, .int z17, .ref m18, .ref m19, .int z20, .ref m21, .ref m22, .ref m23, .ref m24, .ref m25, .int z26, .int z27, .int z28, .int z29, .int z30, .ref m31, .ref m32, .ref m33, .ref m34, .ref m35, .ref m36, .ref m37, .long z38, .ref m39, .ref m40, .int z41, .ref m42])), (pa, zaJ k 4 fu), (qa, zaJ k 4 fv), (m3, zaJ k 4 (vp_updL (vp_updL f3 0 (sar (((((fu 0) * (fv 0)) - ((fu 1) * (fv 1))) - ((fu 2) * (fv 2))) - ((fu 3) * (fv 3))) 28)) 1 (sar (((((fu 0) * (fv 1)) + ((fu 1) * (fv 0))) + ((fu 2) * (fv 3))) - ((fu 3) * (fv 2))) 28)))]) rfl dX9_multiply_79 (fun H locs hP hD hS => ?_)
  refine lv_aload_n hx hb dX9_multiply_80 rfl (lv_at hl 0 rfl) ?_
  refine va_get (D := D) (ci := 8) (v := .ref m3) (C := RX9) (T := TX9) (N := 43) hx hb hts hinX9 hown hK hP 0 rfl rfl 3 (Nat.le_of_ble_eq_true rfl) hl19 (fun _ h9 => h9) rfl dX9_multiply_81 ?_
  refine lv_iconst (v := 2) hx hb dX9_multiply_84 (by decide) ?_
  refine lv_aload_n hx hb dX9_multiply_85 rfl (lv_at hl 1 rfl) ?_
  refine lv_iconst (v := 0) hx hb dX9_multiply_86 (by decide) ?_
  refine z_lald hx hb hK hP 1 rfl 0 zx0 (by decide) (v := fu 0) rfl dX9_multiply_87 ?_
  refine lv_aload_n hx hb dX9_multiply_88 rfl (lv_at hl 2 rfl) ?_
  refine lv_iconst (v := 2) hx hb dX9_multiply_89 (by decide) ?_
  refine z_lald hx hb hK hP 2 rfl 2 zx2 (by decide) (v := fv 2) rfl dX9_multiply_90 ?_
  refine lv_lmul hx hb dX9_multiply_91 ?_
  refine lv_aload_n hx hb dX9_multiply_92 rfl (lv_at hl 1 rfl) ?_
  refine lv_iconst (v := 1) hx hb dX9_multiply_93 (by decide) ?_
  refine z_lald hx hb hK hP 1 rfl 1 zx1 (by decide) (v := fu 1) rfl dX9_multiply_94 ?_
  refine lv_aload_n hx hb dX9_multiply_95 rfl (lv_at hl 2 rfl) ?_
  refine lv_iconst (v := 3) hx hb dX9_multiply_96 (by decide) ?_
  refine z_lald hx hb hK hP 2 rfl 3 zx3 (by decide) (v := fv 3) rfl dX9_multiply_97 ?_
  refine lv_lmul hx hb dX9_multiply_98 ?_
  refine lv_lsub hx hb dX9_multiply_99 ?_
  refine lv_aload_n hx hb dX9_multiply_100 rfl (lv_at hl 1 rfl) ?_
  refine lv_iconst (v := 2) hx hb dX9_multiply_101 (by decide) ?_
  refine z_lald hx hb hK hP 1 rfl 2 zx2 (by decide) (v := fu 2) rfl dX9_multiply_102 ?_
  refine lv_aload_n hx hb dX9_multiply_103 rfl (lv_at hl 2 rfl) ?_
  refine lv_iconst (v := 0) hx hb dX9_multiply_104 (by decide) ?_
  refine z_lald hx hb hK hP 2 rfl 0 zx0 (by decide) (v := fv 0) rfl dX9_multiply_105 ?_
  refine lv_lmul hx hb dX9_multiply_106 ?_
  refine lv_ladd hx hb dX9_multiply_107 ?_
  refine lv_aload_n hx hb dX9_multiply_108 rfl (lv_at hl 1 rfl) ?_
  refine lv_iconst (v := 3) hx hb dX9_multiply_109 (by decide) ?_
  refine z_lald hx hb hK hP 1 rfl 3 zx3 (by decide) (v := fu 3) rfl dX9_multiply_110 ?_
  refine lv_aload_n hx hb dX9_multiply_111 rfl (lv_at hl 2 rfl) ?_
  refine lv_iconst (v := 1) hx hb dX9_multiply_112 (by decide) ?_
  refine z_lald hx hb hK hP 2 rfl 1 zx1 (by decide) (v := fv 1) rfl dX9_multiply_113 ?_
  refine lv_lmul hx hb dX9_multiply_114 ?_
  refine lv_ladd hx hb dX9_multiply_115 ?_
  refine lv_bipush (v := 28) hx hb dX9_multiply_116 (by decide) ?_
  refine lv_lshr (v := sar (((((fu 0) * (fv 2)) - ((fu 1) * (fv 3))) + ((fu 2) * (fv 0))) + ((fu 3) * (fv 1))) 28) hx hb dX9_multiply_118 rfl ?_
  refine z_last hx hb hK hP hD hS 3 rfl 2 zx2 (by decide) (ws' := [(o, .inr (8, [.ref m0, .ref m1, .ref m2, .ref m3, .ref m4, .ref m5, .ref m6, .ref m7, .ref m8, .ref m9, .ref m10, .ref m11, .ref m12, .long z13, .long z14, .int z15, .int z16, .int z17, .ref m18, .ref m19, .int z20, .ref m21, .ref m22, .ref m23, .ref m24, .ref m25, .int z26, .int z27, .int z28, .int z29, .int z30, .ref m31, .ref m32, .ref m33, .ref m34, .ref m35, .ref m36, .ref m37, .long z38, .ref m39, .ref m40, .int z41, .ref m42])), (pa, zaJ k 4 fu), (qa, zaJ k 4 fv), (m3, zaJ k 4 (vp_updL (vp_updL (vp_updL f3 0 (sar (((((fu 0) * (fv 0)) - ((fu 1) * (fv 1))) - ((fu 2) * (fv 2))) - ((fu 3) * (fv 3))) 28)) 1 (sar (((((fu 0) * (fv 1)) + ((fu 1) * (fv 0))) + ((fu 2) * (fv 3))) - ((fu 3) * (fv 2))) 28)) 2 (sar (((((fu 0) * (fv 2)) - ((fu 1) * (fv 3))) + ((fu 2) * (fv 0))) + ((fu 3) * (fv 1))) 28)))]) rfl dX9_multiply_119 (fun H locs hP hD hS => ?_)
  refine lv_aload_n hx hb dX9_multiply_120 rfl (lv_at hl 0 rfl) ?_
  refine va_get (D := D) (ci := 8) (v := .ref m3) (C := RX9) (T := TX9) (N := 43) hx hb hts hinX9 hown hK hP 0 rfl rfl 3 (Nat.le_of_ble_eq_true rfl) hl19 (fun _ h9 => h9) rfl dX9_multiply_121 ?_
  refine lv_iconst (v := 3) hx hb dX9_multiply_124 (by decide) ?_
  refine lv_aload_n hx hb dX9_multiply_125 rfl (lv_at hl 1 rfl) ?_
  refine lv_iconst (v := 0) hx hb dX9_multiply_126 (by decide) ?_
  refine z_lald hx hb hK hP 1 rfl 0 zx0 (by decide) (v := fu 0) rfl dX9_multiply_127 ?_
  refine lv_aload_n hx hb dX9_multiply_128 rfl (lv_at hl 2 rfl) ?_
  refine lv_iconst (v := 3) hx hb dX9_multiply_129 (by decide) ?_
  refine z_lald hx hb hK hP 2 rfl 3 zx3 (by decide) (v := fv 3) rfl dX9_multiply_130 ?_
  refine lv_lmul hx hb dX9_multiply_131 ?_
  refine lv_aload_n hx hb dX9_multiply_132 rfl (lv_at hl 1 rfl) ?_
  refine lv_iconst (v := 1) hx hb dX9_multiply_133 (by decide) ?_
  refine z_lald hx hb hK hP 1 rfl 1 zx1 (by decide) (v := fu 1) rfl dX9_multiply_134 ?_
  refine lv_aload_n hx hb dX9_multiply_135 rfl (lv_at hl 2 rfl) ?_
  refine lv_iconst (v := 2) hx hb dX9_multiply_136 (by decide) ?_
  refine z_lald hx hb hK hP 2 rfl 2 zx2 (by decide) (v := fv 2) rfl dX9_multiply_137 ?_
  refine lv_lmul hx hb dX9_multiply_138 ?_
  refine lv_ladd hx hb dX9_multiply_139 ?_
  refine lv_aload_n hx hb dX9_multiply_140 rfl (lv_at hl 1 rfl) ?_
  refine lv_iconst (v := 2) hx hb dX9_multiply_141 (by decide) ?_
  refine z_lald hx hb hK hP 1 rfl 2 zx2 (by decide) (v := fu 2) rfl dX9_multiply_142 ?_
  refine lv_aload_n hx hb dX9_multiply_143 rfl (lv_at hl 2 rfl) ?_
  refine lv_iconst (v := 1) hx hb dX9_multiply_144 (by decide) ?_
  refine z_lald hx hb hK hP 2 rfl 1 zx1 (by decide) (v := fv 1) rfl dX9_multiply_145 ?_
  refine lv_lmul hx hb dX9_multiply_146 ?_
  refine lv_lsub hx hb dX9_multiply_147 ?_
  refine lv_aload_n hx hb dX9_multiply_148 rfl (lv_at hl 1 rfl) ?_
  refine lv_iconst (v := 3) hx hb dX9_multiply_149 (by decide) ?_
  refine z_lald hx hb hK hP 1 rfl 3 zx3 (by decide) (v := fu 3) rfl dX9_multiply_150 ?_
  refine lv_aload_n hx hb dX9_multiply_151 rfl (lv_at hl 2 rfl) ?_
  refine lv_iconst (v := 0) hx hb dX9_multiply_152 (by decide) ?_
  refine z_lald hx hb hK hP 2 rfl 0 zx0 (by decide) (v := fv 0) rfl dX9_multiply_153 ?_
  refine lv_lmul hx hb dX9_multiply_154 ?_
  refine lv_ladd hx hb dX9_multiply_155 ?_
  refine lv_bipush (v := 28) hx hb dX9_multiply_156 (by decide) ?_
  refine lv_lshr (v := sar (((((fu 0) * (fv 3)) + ((fu 1) * (fv 2))) - ((fu 2) * (fv 1))) + ((fu 3) * (fv 0))) 28) hx hb dX9_multiply_158 rfl ?_
  refine z_last hx hb hK hP hD hS 3 rfl 3 zx3 (by decide) (ws' := [(o, .inr (8, [.ref m0, .ref m1, .ref m2, .ref m3, .ref m4, .ref m5, .ref m6, .ref m7, .ref m8, .ref m9, .ref m10, .ref m11, .ref m12, .long z13, .long z14, .int z15, .int z16, .int z17, .ref m18, .ref m19, .int z20, .ref m21, .ref m22, .ref m23, .ref m24, .ref m25, .int z26, .int z27, .int z28, .int z29, .int z30, .ref m31, .ref m32, .ref m33, .ref m34, .ref m35, .ref m36, .ref m37, .long z38, .ref m39, .ref m40, .int z41, .ref m42])), (pa, zaJ k 4 fu), (qa, zaJ k 4 fv), (m3, zaJ k 4 (vp_updL (vp_updL (vp_updL (vp_updL f3 0 (sar (((((fu 0) * (fv 0)) - ((fu 1) * (fv 1))) - ((fu 2) * (fv 2))) - ((fu 3) * (fv 3))) 28)) 1 (sar (((((fu 0) * (fv 1)) + ((fu 1) * (fv 0))) + ((fu 2) * (fv 3))) - ((fu 3) * (fv 2))) 28)) 2 (sar (((((fu 0) * (fv 2)) - ((fu 1) * (fv 3))) + ((fu 2) * (fv 0))) + ((fu 3) * (fv 1))) 28)) 3 (sar (((((fu 0) * (fv 3)) + ((fu 1) * (fv 2))) - ((fu 2) * (fv 1))) + ((fu 3) * (fv 0))) 28)))]) rfl dX9_multiply_159 (fun H locs hP hD hS => ?_)
  have hP := z_congJ hP 3 rfl (g := qmul fu fv) (zall4 (by rfl) (by rfl) (by rfl) (by rfl)) (ws' := [(o, .inr (8, [.ref m0, .ref m1, .ref m2, .ref m3, .ref m4, .ref m5, .ref m6, .ref m7, .ref m8, .ref m9, .ref m10, .ref m11, .ref m12, .long z13, .long z14, .int z15, .int z16, .int z17, .ref m18, .ref m19, .int z20, .ref m21, .ref m22, .ref m23, .ref m24, .ref m25, .int z26, .int z27, .int z28, .int z29, .int z30, .ref m31, .ref m32, .ref m33, .ref m34, .ref m35, .ref m36, .ref m37, .long z38, .ref m39, .ref m40, .int z41, .ref m42])), (pa, zaJ k 4 fu), (qa, zaJ k 4 fv), (m3, zaJ k 4 (qmul fu fv))]) rfl
  have hD := z_congDJ hD 3 rfl (g := qmul fu fv) (ws' := [(o, .inr (8, [.ref m0, .ref m1, .ref m2, .ref m3, .ref m4, .ref m5, .ref m6, .ref m7, .ref m8, .ref m9, .ref m10, .ref m11, .ref m12, .long z13, .long z14, .int z15, .int z16, .int z17, .ref m18, .ref m19, .int z20, .ref m21, .ref m22, .ref m23, .ref m24, .ref m25, .int z26, .int z27, .int z28, .int z29, .int z30, .ref m31, .ref m32, .ref m33, .ref m34, .ref m35, .ref m36, .ref m37, .long z38, .ref m39, .ref m40, .int z41, .ref m42])), (pa, zaJ k 4 fu), (qa, zaJ k 4 fv), (m3, zaJ k 4 (qmul fu fv))]) rfl
  have hP9 := hP.sub (ws' := [(o, .inr (8, [.ref m0, .ref m1, .ref m2, .ref m3, .ref m4, .ref m5, .ref m6, .ref m7, .ref m8, .ref m9, .ref m10, .ref m11, .ref m12, .long z13, .long z14, .int z15, .int z16, .int z17, .ref m18, .ref m19, .int z20, .ref m21, .ref m22, .ref m23, .ref m24, .ref m25, .int z26, .int z27, .int z28, .int z29, .int z30, .ref m31, .ref m32, .ref m33, .ref m34, .ref m35, .ref m36, .ref m37, .long z38, .ref m39, .ref m40, .int z41, .ref m42])), (pa, zaJ k 4 fu), (qa, zaJ k 4 fv), (m3, zaJ k 4 (qmul fu fv))]) [0, 1, 2, 3] rfl
  have hD9 := hD.sub (ws' := [(o, .inr (8, [.ref m0, .ref m1, .ref m2, .ref m3, .ref m4, .ref m5, .ref m6, .ref m7, .ref m8, .ref m9, .ref m10, .ref m11, .ref m12, .long z13, .long z14, .int z15, .int z16, .int z17, .ref m18, .ref m19, .int z20, .ref m21, .ref m22, .ref m23, .ref m24, .ref m25, .int z26, .int z27, .int z28, .int z29, .int z30, .ref m31, .ref m32, .ref m33, .ref m34, .ref m35, .ref m36, .ref m37, .long z38, .ref m39, .ref m40, .int z41, .ref m42])), (pa, zaJ k 4 fu), (qa, zaJ k 4 fv), (m3, zaJ k 4 (qmul fu fv))]) [0, 1, 2, 3] (by decide) rfl
  exact W.vret hx hb hr (fun t9 ht9 hW9 => ⟨⟨[(o, .inr (8, [.ref m0, .ref m1, .ref m2, .ref m3, .ref m4, .ref m5, .ref m6, .ref m7, .ref m8, .ref m9, .ref m10, .ref m11, .ref m12, .long z13, .long z14, .int z15, .int z16, .int z17, .ref m18, .ref m19, .int z20, .ref m21, .ref m22, .ref m23, .ref m24, .ref m25, .int z26, .int z27, .int z28, .int z29, .int z30, .ref m31, .ref m32, .ref m33, .ref m34, .ref m35, .ref m36, .ref m37, .long z38, .ref m39, .ref m40, .int z41, .ref m42])), (pa, zaJ k 4 fu), (qa, zaJ k 4 fv), (m3, zaJ k 4 (qmul fu fv))], rfl, rfl, by rw [ht9]; exact hP9, hD9⟩, hS.F ht9⟩) hS.2.2 dX9_multiply_160
set_option maxHeartbeats 4000000 in
set_option maxRecDepth 100000 in
theorem c_X9_laysMatrix (l : Launch) (D : va_G) (k : Nat → ClassId) (sz : Nat) (o m0 m1 m2 m3 m4 m5 m6 m7 m8 m9 m10 m11 m12 m18 m19 m21 m22 m23 m24 m25 m31 m32 m33 m34 m35 m36 m37 m39 m40 m42 : Nat) (z13 z14 z38 : Int64) (z15 z16 z17 z20 z26 z27 z28 z29 z30 z41 : Int32) (qa : Nat) (fu f4 : Nat → Int64) : Met l yX9_laysMatrix wsX9_laysMatrix ({ frames := 0, cells := 0, slots := 0, locals := 0 } : Room) (va_Pc [.ref o, .ref qa] (zPre D k [(o, .inr (8, [.ref m0, .ref m1, .ref m2, .ref m3, .ref m4, .ref m5, .ref m6, .ref m7, .ref m8, .ref m9, .ref m10, .ref m11, .ref m12, .long z13, .long z14, .int z15, .int z16, .int z17, .ref m18, .ref m19, .int z20, .ref m21, .ref m22, .ref m23, .ref m24, .ref m25, .int z26, .int z27, .int z28, .int z29, .int z30, .ref m31, .ref m32, .ref m33, .ref m34, .ref m35, .ref m36, .ref m37, .long z38, .ref m39, .ref m40, .int z41, .ref m42])), (qa, zaJ k 4 fu), (m4, zaJ k 9 f4)] sz zX0)) (zQv D [(o, .inr (8, [.ref m0, .ref m1, .ref m2, .ref m3, .ref m4, .ref m5, .ref m6, .ref m7, .ref m8, .ref m9, .ref m10, .ref m11, .ref m12, .long z13, .long z14, .int z15, .int z16, .int z17, .ref m18, .ref m19, .int z20, .ref m21, .ref m22, .ref m23, .ref m24, .ref m25, .int z26, .int z27, .int z28, .int z29, .int z30, .ref m31, .ref m32, .ref m33, .ref m34, .ref m35, .ref m36, .ref m37, .long z38, .ref m39, .ref m40, .int z41, .ref m42])), (qa, zaJ k 4 fu), (m4, zaJ k 9 f4)] sz (fun w : va_W => w = [(o, .inr (8, [.ref m0, .ref m1, .ref m2, .ref m3, .ref m4, .ref m5, .ref m6, .ref m7, .ref m8, .ref m9, .ref m10, .ref m11, .ref m12, .long z13, .long z14, .int z15, .int z16, .int z17, .ref m18, .ref m19, .int z20, .ref m21, .ref m22, .ref m23, .ref m24, .ref m25, .int z26, .int z27, .int z28, .int z29, .int z30, .ref m31, .ref m32, .ref m33, .ref m34, .ref m35, .ref m36, .ref m37, .long z38, .ref m39, .ref m40, .int z41, .ref m42])), (qa, zaJ k 4 fu), (m4, zaJ k 9 (mat9 fu))])) 0 0 (va_A [(o, .inr (8, [.ref m0, .ref m1, .ref m2, .ref m3, .ref m4, .ref m5, .ref m6, .ref m7, .ref m8, .ref m9, .ref m10, .ref m11, .ref m12, .long z13, .long z14, .int z15, .int z16, .int z17, .ref m18, .ref m19, .int z20, .ref m21, .ref m22, .ref m23, .ref m24, .ref m25, .int z26, .int z27, .int z28, .int z29, .int z30, .ref m31, .ref m32, .ref m33, .ref m34, .ref m35, .ref m36, .ref m37, .long z38, .ref m39, .ref m40, .int z41, .ref m42])), (qa, zaJ k 4 fu), (m4, zaJ k 9 f4)] sz) := by
  refine Met.ofW (cc := cX9_laysMatrix) (maxL := 10) (ret := none) (by decide) rfl ?_
  intro p e s m args below meth c s₁ B hml hv
  obtain ⟨rfl, hsz, hP, hK, hD0, hE⟩ := hv
  have hx := B.exec
  have hb := B.bytes
  have hr := B.returns
  have hts := atoms_spec (ws := wsX9_laysMatrix) B.pre
  have hown : s.vm.findClass RX9 = some m.cls := findClass_of_methodNamed B.named
  have hlocks := B.notSynchronized
  subst hsz
  have hD := hD0.self (sz := s.heap.size)
  delta zQv zB
  generalize hAe : va_A [(o, .inr (8, [.ref m0, .ref m1, .ref m2, .ref m3, .ref m4, .ref m5, .ref m6, .ref m7, .ref m8, .ref m9, .ref m10, .ref m11, .ref m12, .long z13, .long z14, .int z15, .int z16, .int z17, .ref m18, .ref m19, .int z20, .ref m21, .ref m22, .ref m23, .ref m24, .ref m25, .int z26, .int z27, .int z28, .int z29, .int z30, .ref m31, .ref m32, .ref m33, .ref m34, .ref m35, .ref m36, .ref m37, .long z38, .ref m39, .ref m40, .int z41, .ref m42])), (qa, zaJ k 4 fu), (m4, zaJ k 9 f4)] s.heap.size = A at hD hE ⊢
  have hA : ∀ q : Nat, s.heap.size ≤ q → A q := fun q h => by rw [← hAe]; exact Or.inr h
  have hS : va_S A s.heap s.heap [] := va_S.rf
  have hl := lv_entry [.ref o, .ref qa] (n := 10) (Nat.le_of_ble_eq_true rfl)
  rw [lg_entry_eq]
  generalize (lg_sl [.ref o, .ref qa] ++ List.replicate (10 - (lg_sl [.ref o, .ref qa]).length) Slot.unset).toArray = ls at hl ⊢
  have hl : lv_has ls 10 [(0, .ref o), (1, .ref qa)] := hl
  have hl22 : (Cond.fieldLink RX9 22 "InertialReferenceModel" "matrix" "[J").before #[Value.ref o, Value.ref qa] s = true := zw hts 1 rfl
  have hinX9 : ∀ w ∈ u_ws RX9 TX9 43, w ∈ wsX9_laysMatrix := fun w h => List.mem_cons_of_mem _ (List.mem_append_right _ h)
  have hl113 : (Cond.constantLong RX9 113 (268435456)).before #[Value.ref o, Value.ref qa] s = true := zw hts 2 rfl
  have hl105 : (Cond.constantLong RX9 105 (2)).before #[Value.ref o, Value.ref qa] s = true := zw hts 3 rfl
  refine lv_aload_n hx hb dX9_laysMatrix_0 rfl (lv_at hl 1 rfl) ?_
  refine lv_iconst (v := 0) hx hb dX9_laysMatrix_1 (by decide) ?_
  refine z_lald hx hb hK hP 1 rfl 0 zx0 (by decide) (v := fu 0) rfl dX9_laysMatrix_2 ?_
  refine lv_lstore_n (lv' := [(2, .long (fu 0)), (0, .ref o), (1, .ref qa)]) hx hb dX9_laysMatrix_3 rfl hl (by decide) rfl (fun ls hl => ?_)
  refine lv_aload_n hx hb dX9_laysMatrix_4 rfl (lv_at hl 2 rfl) ?_
  refine lv_iconst (v := 1) hx hb dX9_laysMatrix_5 (by decide) ?_
  refine z_lald hx hb hK hP 1 rfl 1 zx1 (by decide) (v := fu 1) rfl dX9_laysMatrix_6 ?_
  refine lv_lstore (lv' := [(4, .long (fu 1)), (2, .long (fu 0)), (0, .ref o), (1, .ref qa)]) hx hb dX9_laysMatrix_7 hl (by decide) rfl (fun ls hl => ?_)
  refine lv_aload_n hx hb dX9_laysMatrix_9 rfl (lv_at hl 3 rfl) ?_
  refine lv_iconst (v := 2) hx hb dX9_laysMatrix_10 (by decide) ?_
  refine z_lald hx hb hK hP 1 rfl 2 zx2 (by decide) (v := fu 2) rfl dX9_laysMatrix_11 ?_
  refine lv_lstore (lv' := [(6, .long (fu 2)), (4, .long (fu 1)), (2, .long (fu 0)), (0, .ref o), (1, .ref qa)]) hx hb dX9_laysMatrix_12 hl (by decide) rfl (fun ls hl => ?_)
  refine lv_aload_n hx hb dX9_laysMatrix_14 rfl (lv_at hl 4 rfl) ?_
  refine lv_iconst (v := 3) hx hb dX9_laysMatrix_15 (by decide) ?_
  refine z_lald hx hb hK hP 1 rfl 3 zx3 (by decide) (v := fu 3) rfl dX9_laysMatrix_16 ?_
  refine lv_lstore (lv' := [(8, .long (fu 3)), (6, .long (fu 2)), (4, .long (fu 1)), (2, .long (fu 0)), (0, .ref o), (1, .ref qa)]) hx hb dX9_laysMatrix_17 hl (by decide) rfl (fun ls hl => ?_)
  refine lv_aload_n hx hb dX9_laysMatrix_19 rfl (lv_at hl 4 rfl) ?_
  refine va_get (D := D) (ci := 8) (v := .ref m4) (C := RX9) (T := TX9) (N := 43) hx hb hts hinX9 hown hK hP 0 rfl rfl 4 (Nat.le_of_ble_eq_true rfl) hl22 (fun _ h9 => h9) rfl dX9_laysMatrix_20 ?_
  refine lv_iconst (v := 0) hx hb dX9_laysMatrix_23 (by decide) ?_
  refine lv_ldc2 hx hb hown hl113 dX9_laysMatrix_24 ?_
  refine lv_ldc2 hx hb hown hl105 dX9_laysMatrix_27 ?_
  refine lv_lload hx hb dX9_laysMatrix_30 (lv_at hl 1 rfl) ?_
  refine lv_lload hx hb dX9_laysMatrix_32 (lv_at hl 1 rfl) ?_
  refine lv_lmul hx hb dX9_laysMatrix_34 ?_
  refine lv_lload hx hb dX9_laysMatrix_35 (lv_at hl 0 rfl) ?_
  refine lv_lload hx hb dX9_laysMatrix_37 (lv_at hl 0 rfl) ?_
  refine lv_lmul hx hb dX9_laysMatrix_39 ?_
  refine lv_ladd hx hb dX9_laysMatrix_40 ?_
  refine lv_bipush (v := 28) hx hb dX9_laysMatrix_41 (by decide) ?_
  refine lv_lshr (v := sar (((fu 2) * (fu 2)) + ((fu 3) * (fu 3))) 28) hx hb dX9_laysMatrix_43 rfl ?_
  refine lv_lmul hx hb dX9_laysMatrix_44 ?_
  refine lv_lsub hx hb dX9_laysMatrix_45 ?_
  refine z_last hx hb hK hP hD hS 2 rfl 0 zx0 (by decide) (ws' := [(o, .inr (8, [.ref m0, .ref m1, .ref m2, .ref m3, .ref m4, .ref m5, .ref m6, .ref m7, .ref m8, .ref m9, .ref m10, .ref m11, .ref m12, .long z13, .long z14, .int z15, .int z16, .int z17, .ref m18, .ref m19, .int z20, .ref m21, .ref m22, .ref m23, .ref m24, .ref m25, .int z26, .int z27, .int z28, .int z29, .int z30, .ref m31, .ref m32, .ref m33, .ref m34, .ref m35, .ref m36, .ref m37, .long z38, .ref m39, .ref m40, .int z41, .ref m42])), (qa, zaJ k 4 fu), (m4, zaJ k 9 (vp_updL f4 0 (268435456 - (2 * (sar (((fu 2) * (fu 2)) + ((fu 3) * (fu 3))) 28)))))]) rfl dX9_laysMatrix_46 (fun H locs hP hD hS => ?_)
  refine lv_aload_n hx hb dX9_laysMatrix_47 rfl (lv_at hl 4 rfl) ?_
  refine va_get (D := D) (ci := 8) (v := .ref m4) (C := RX9) (T := TX9) (N := 43) hx hb hts hinX9 hown hK hP 0 rfl rfl 4 (Nat.le_of_ble_eq_true rfl) hl22 (fun _ h9 => h9) rfl dX9_laysMatrix_48 ?_
  refine lv_iconst (v := 1) hx hb dX9_laysMatrix_51 (by decide) ?_
  refine lv_ldc2 hx hb hown hl105 dX9_laysMatrix_52 ?_
  refine lv_lload hx hb dX9_laysMatrix_55 (lv_at hl 2 rfl) ?_
  refine lv_lload hx hb dX9_laysMatrix_57 (lv_at hl 1 rfl) ?_
  refine lv_lmul hx hb dX9_laysMatrix_59 ?_
  refine lv_lload_n hx hb dX9_laysMatrix_60 rfl (lv_at hl 3 rfl) ?_
  refine lv_lload hx hb dX9_laysMatrix_61 (lv_at hl 0 rfl) ?_
  refine lv_lmul hx hb dX9_laysMatrix_63 ?_
  refine lv_lsub hx hb dX9_laysMatrix_64 ?_
  refine lv_bipush (v := 28) hx hb dX9_laysMatrix_65 (by decide) ?_
  refine lv_lshr (v := sar (((fu 1) * (fu 2)) - ((fu 0) * (fu 3))) 28) hx hb dX9_laysMatrix_67 rfl ?_
  refine lv_lmul hx hb dX9_laysMatrix_68 ?_
  refine z_last hx hb hK hP hD hS 2 rfl 1 zx1 (by decide) (ws' := [(o, .inr (8, [.ref m0, .ref m1, .ref m2, .ref m3, .ref m4, .ref m5, .ref m6, .ref m7, .ref m8, .ref m9, .ref m10, .ref m11, .ref m12, .long z13, .long z14, .int z15, .int z16, .int z17, .ref m18, .ref m19, .int z20, .ref m21, .ref m22, .ref m23, .ref m24, .ref m25, .int z26, .int z27, .int z28, .int z29, .int z30, .ref m31, .ref m32, .ref m33, .ref m34, .ref m35, .ref m36, .ref m37, .long z38, .ref m39, .ref m40, .int z41, .ref m42])), (qa, zaJ k 4 fu), (m4, zaJ k 9 (vp_updL (vp_updL f4 0 (268435456 - (2 * (sar (((fu 2) * (fu 2)) + ((fu 3) * (fu 3))) 28)))) 1 (2 * (sar (((fu 1) * (fu 2)) - ((fu 0) * (fu 3))) 28))))]) rfl dX9_laysMatrix_69 (fun H locs hP hD hS => ?_)
  refine lv_aload_n hx hb dX9_laysMatrix_70 rfl (lv_at hl 4 rfl) ?_
  refine va_get (D := D) (ci := 8) (v := .ref m4) (C := RX9) (T := TX9) (N := 43) hx hb hts hinX9 hown hK hP 0 rfl rfl 4 (Nat.le_of_ble_eq_true rfl) hl22 (fun _ h9 => h9) rfl dX9_laysMatrix_71 ?_
  refine lv_iconst (v := 2) hx hb dX9_laysMatrix_74 (by decide) ?_
  refine lv_ldc2 hx hb hown hl105 dX9_laysMatrix_75 ?_
  refine lv_lload hx hb dX9_laysMatrix_78 (lv_at hl 2 rfl) ?_
  refine lv_lload hx hb dX9_laysMatrix_80 (lv_at hl 0 rfl) ?_
  refine lv_lmul hx hb dX9_laysMatrix_82 ?_
  refine lv_lload_n hx hb dX9_laysMatrix_83 rfl (lv_at hl 3 rfl) ?_
  refine lv_lload hx hb dX9_laysMatrix_84 (lv_at hl 1 rfl) ?_
  refine lv_lmul hx hb dX9_laysMatrix_86 ?_
  refine lv_ladd hx hb dX9_laysMatrix_87 ?_
  refine lv_bipush (v := 28) hx hb dX9_laysMatrix_88 (by decide) ?_
  refine lv_lshr (v := sar (((fu 1) * (fu 3)) + ((fu 0) * (fu 2))) 28) hx hb dX9_laysMatrix_90 rfl ?_
  refine lv_lmul hx hb dX9_laysMatrix_91 ?_
  refine z_last hx hb hK hP hD hS 2 rfl 2 zx2 (by decide) (ws' := [(o, .inr (8, [.ref m0, .ref m1, .ref m2, .ref m3, .ref m4, .ref m5, .ref m6, .ref m7, .ref m8, .ref m9, .ref m10, .ref m11, .ref m12, .long z13, .long z14, .int z15, .int z16, .int z17, .ref m18, .ref m19, .int z20, .ref m21, .ref m22, .ref m23, .ref m24, .ref m25, .int z26, .int z27, .int z28, .int z29, .int z30, .ref m31, .ref m32, .ref m33, .ref m34, .ref m35, .ref m36, .ref m37, .long z38, .ref m39, .ref m40, .int z41, .ref m42])), (qa, zaJ k 4 fu), (m4, zaJ k 9 (vp_updL (vp_updL (vp_updL f4 0 (268435456 - (2 * (sar (((fu 2) * (fu 2)) + ((fu 3) * (fu 3))) 28)))) 1 (2 * (sar (((fu 1) * (fu 2)) - ((fu 0) * (fu 3))) 28))) 2 (2 * (sar (((fu 1) * (fu 3)) + ((fu 0) * (fu 2))) 28))))]) rfl dX9_laysMatrix_92 (fun H locs hP hD hS => ?_)
  refine lv_aload_n hx hb dX9_laysMatrix_93 rfl (lv_at hl 4 rfl) ?_
  refine va_get (D := D) (ci := 8) (v := .ref m4) (C := RX9) (T := TX9) (N := 43) hx hb hts hinX9 hown hK hP 0 rfl rfl 4 (Nat.le_of_ble_eq_true rfl) hl22 (fun _ h9 => h9) rfl dX9_laysMatrix_94 ?_
  refine lv_iconst (v := 3) hx hb dX9_laysMatrix_97 (by decide) ?_
  refine lv_ldc2 hx hb hown hl105 dX9_laysMatrix_98 ?_
  refine lv_lload hx hb dX9_laysMatrix_101 (lv_at hl 2 rfl) ?_
  refine lv_lload hx hb dX9_laysMatrix_103 (lv_at hl 1 rfl) ?_
  refine lv_lmul hx hb dX9_laysMatrix_105 ?_
  refine lv_lload_n hx hb dX9_laysMatrix_106 rfl (lv_at hl 3 rfl) ?_
  refine lv_lload hx hb dX9_laysMatrix_107 (lv_at hl 0 rfl) ?_
  refine lv_lmul hx hb dX9_laysMatrix_109 ?_
  refine lv_ladd hx hb dX9_laysMatrix_110 ?_
  refine lv_bipush (v := 28) hx hb dX9_laysMatrix_111 (by decide) ?_
  refine lv_lshr (v := sar (((fu 1) * (fu 2)) + ((fu 0) * (fu 3))) 28) hx hb dX9_laysMatrix_113 rfl ?_
  refine lv_lmul hx hb dX9_laysMatrix_114 ?_
  refine z_last hx hb hK hP hD hS 2 rfl 3 zx3 (by decide) (ws' := [(o, .inr (8, [.ref m0, .ref m1, .ref m2, .ref m3, .ref m4, .ref m5, .ref m6, .ref m7, .ref m8, .ref m9, .ref m10, .ref m11, .ref m12, .long z13, .long z14, .int z15, .int z16, .int z17, .ref m18, .ref m19, .int z20, .ref m21, .ref m22, .ref m23, .ref m24, .ref m25, .int z26, .int z27, .int z28, .int z29, .int z30, .ref m31, .ref m32, .ref m33, .ref m34, .ref m35, .ref m36, .ref m37, .long z38, .ref m39, .ref m40, .int z41, .ref m42])), (qa, zaJ k 4 fu), (m4, zaJ k 9 (vp_updL (vp_updL (vp_updL (vp_updL f4 0 (268435456 - (2 * (sar (((fu 2) * (fu 2)) + ((fu 3) * (fu 3))) 28)))) 1 (2 * (sar (((fu 1) * (fu 2)) - ((fu 0) * (fu 3))) 28))) 2 (2 * (sar (((fu 1) * (fu 3)) + ((fu 0) * (fu 2))) 28))) 3 (2 * (sar (((fu 1) * (fu 2)) + ((fu 0) * (fu 3))) 28))))]) rfl dX9_laysMatrix_115 (fun H locs hP hD hS => ?_)
  refine lv_aload_n hx hb dX9_laysMatrix_116 rfl (lv_at hl 4 rfl) ?_
  refine va_get (D := D) (ci := 8) (v := .ref m4) (C := RX9) (T := TX9) (N := 43) hx hb hts hinX9 hown hK hP 0 rfl rfl 4 (Nat.le_of_ble_eq_true rfl) hl22 (fun _ h9 => h9) rfl dX9_laysMatrix_117 ?_
  refine lv_iconst (v := 4) hx hb dX9_laysMatrix_120 (by decide) ?_
  refine lv_ldc2 hx hb hown hl113 dX9_laysMatrix_121 ?_
  refine lv_ldc2 hx hb hown hl105 dX9_laysMatrix_124 ?_
  refine lv_lload hx hb dX9_laysMatrix_127 (lv_at hl 2 rfl) ?_
  refine lv_lload hx hb dX9_laysMatrix_129 (lv_at hl 2 rfl) ?_
  refine lv_lmul hx hb dX9_laysMatrix_131 ?_
  refine lv_lload hx hb dX9_laysMatrix_132 (lv_at hl 0 rfl) ?_
  refine lv_lload hx hb dX9_laysMatrix_134 (lv_at hl 0 rfl) ?_
  refine lv_lmul hx hb dX9_laysMatrix_136 ?_
  refine lv_ladd hx hb dX9_laysMatrix_137 ?_
  refine lv_bipush (v := 28) hx hb dX9_laysMatrix_138 (by decide) ?_
  refine lv_lshr (v := sar (((fu 1) * (fu 1)) + ((fu 3) * (fu 3))) 28) hx hb dX9_laysMatrix_140 rfl ?_
  refine lv_lmul hx hb dX9_laysMatrix_141 ?_
  refine lv_lsub hx hb dX9_laysMatrix_142 ?_
  refine z_last hx hb hK hP hD hS 2 rfl 4 zx4 (by decide) (ws' := [(o, .inr (8, [.ref m0, .ref m1, .ref m2, .ref m3, .ref m4, .ref m5, .ref m6, .ref m7, .ref m8, .ref m9, .ref m10, .ref m11, .ref m12, .long z13, .long z14, .int z15, .int z16, .int z17, .ref m18, .ref m19, .int z20, .ref m21, .ref m22, .ref m23, .ref m24, .ref m25, .int z26, .int z27, .int z28, .int z29, .int z30, .ref m31, .ref m32, .ref m33, .ref m34, .ref m35, .ref m36, .ref m37, .long z38, .ref m39, .ref m40, .int z41, .ref m42])), (qa, zaJ k 4 fu), (m4, zaJ k 9 (vp_updL (vp_updL (vp_updL (vp_updL (vp_updL f4 0 (268435456 - (2 * (sar (((fu 2) * (fu 2)) + ((fu 3) * (fu 3))) 28)))) 1 (2 * (sar (((fu 1) * (fu 2)) - ((fu 0) * (fu 3))) 28))) 2 (2 * (sar (((fu 1) * (fu 3)) + ((fu 0) * (fu 2))) 28))) 3 (2 * (sar (((fu 1) * (fu 2)) + ((fu 0) * (fu 3))) 28))) 4 (268435456 - (2 * (sar (((fu 1) * (fu 1)) + ((fu 3) * (fu 3))) 28)))))]) rfl dX9_laysMatrix_143 (fun H locs hP hD hS => ?_)
  refine lv_aload_n hx hb dX9_laysMatrix_144 rfl (lv_at hl 4 rfl) ?_
  refine va_get (D := D) (ci := 8) (v := .ref m4) (C := RX9) (T := TX9) (N := 43) hx hb hts hinX9 hown hK hP 0 rfl rfl 4 (Nat.le_of_ble_eq_true rfl) hl22 (fun _ h9 => h9) rfl dX9_laysMatrix_145 ?_
  refine lv_iconst (v := 5) hx hb dX9_laysMatrix_148 (by decide) ?_
  refine lv_ldc2 hx hb hown hl105 dX9_laysMatrix_149 ?_
  refine lv_lload hx hb dX9_laysMatrix_152 (lv_at hl 1 rfl) ?_
  refine lv_lload hx hb dX9_laysMatrix_154 (lv_at hl 0 rfl) ?_
  refine lv_lmul hx hb dX9_laysMatrix_156 ?_
  refine lv_lload_n hx hb dX9_laysMatrix_157 rfl (lv_at hl 3 rfl) ?_
  refine lv_lload hx hb dX9_laysMatrix_158 (lv_at hl 2 rfl) ?_
  refine lv_lmul hx hb dX9_laysMatrix_160 ?_
  refine lv_lsub hx hb dX9_laysMatrix_161 ?_
  refine lv_bipush (v := 28) hx hb dX9_laysMatrix_162 (by decide) ?_
  refine lv_lshr (v := sar (((fu 2) * (fu 3)) - ((fu 0) * (fu 1))) 28) hx hb dX9_laysMatrix_164 rfl ?_
  refine lv_lmul hx hb dX9_laysMatrix_165 ?_
  refine z_last hx hb hK hP hD hS 2 rfl 5 zx5 (by decide) (ws' := [(o, .inr (8, [.ref m0, .ref m1, .ref m2, .ref m3, .ref m4, .ref m5, .ref m6, .ref m7, .ref m8, .ref m9, .ref m10, .ref m11, .ref m12, .long z13, .long z14, .int z15, .int z16, .int z17, .ref m18, .ref m19, .int z20, .ref m21, .ref m22, .ref m23, .ref m24, .ref m25, .int z26, .int z27, .int z28, .int z29, .int z30, .ref m31, .ref m32, .ref m33, .ref m34, .ref m35, .ref m36, .ref m37, .long z38, .ref m39, .ref m40, .int z41, .ref m42])), (qa, zaJ k 4 fu), (m4, zaJ k 9 (vp_updL (vp_updL (vp_updL (vp_updL (vp_updL (vp_updL f4 0 (268435456 - (2 * (sar (((fu 2) * (fu 2)) + ((fu 3) * (fu 3))) 28)))) 1 (2 * (sar (((fu 1) * (fu 2)) - ((fu 0) * (fu 3))) 28))) 2 (2 * (sar (((fu 1) * (fu 3)) + ((fu 0) * (fu 2))) 28))) 3 (2 * (sar (((fu 1) * (fu 2)) + ((fu 0) * (fu 3))) 28))) 4 (268435456 - (2 * (sar (((fu 1) * (fu 1)) + ((fu 3) * (fu 3))) 28)))) 5 (2 * (sar (((fu 2) * (fu 3)) - ((fu 0) * (fu 1))) 28))))]) rfl dX9_laysMatrix_166 (fun H locs hP hD hS => ?_)
  refine lv_aload_n hx hb dX9_laysMatrix_167 rfl (lv_at hl 4 rfl) ?_
  refine va_get (D := D) (ci := 8) (v := .ref m4) (C := RX9) (T := TX9) (N := 43) hx hb hts hinX9 hown hK hP 0 rfl rfl 4 (Nat.le_of_ble_eq_true rfl) hl22 (fun _ h9 => h9) rfl dX9_laysMatrix_168 ?_
  refine lv_bipush (v := 6) hx hb dX9_laysMatrix_171 (by decide) ?_
  refine lv_ldc2 hx hb hown hl105 dX9_laysMatrix_173 ?_
  refine lv_lload hx hb dX9_laysMatrix_176 (lv_at hl 2 rfl) ?_
  refine lv_lload hx hb dX9_laysMatrix_178 (lv_at hl 0 rfl) ?_
  refine lv_lmul hx hb dX9_laysMatrix_180 ?_
  refine lv_lload_n hx hb dX9_laysMatrix_181 rfl (lv_at hl 3 rfl) ?_
  refine lv_lload hx hb dX9_laysMatrix_182 (lv_at hl 1 rfl) ?_
  refine lv_lmul hx hb dX9_laysMatrix_184 ?_
  refine lv_lsub hx hb dX9_laysMatrix_185 ?_
  refine lv_bipush (v := 28) hx hb dX9_laysMatrix_186 (by decide) ?_
  refine lv_lshr (v := sar (((fu 1) * (fu 3)) - ((fu 0) * (fu 2))) 28) hx hb dX9_laysMatrix_188 rfl ?_
  refine lv_lmul hx hb dX9_laysMatrix_189 ?_
  refine z_last hx hb hK hP hD hS 2 rfl 6 zx6 (by decide) (ws' := [(o, .inr (8, [.ref m0, .ref m1, .ref m2, .ref m3, .ref m4, .ref m5, .ref m6, .ref m7, .ref m8, .ref m9, .ref m10, .ref m11, .ref m12, .long z13, .long z14, .int z15, .int z16, .int z17, .ref m18, .ref m19, .int z20, .ref m21, .ref m22, .ref m23, .ref m24, .ref m25, .int z26, .int z27, .int z28, .int z29, .int z30, .ref m31, .ref m32, .ref m33, .ref m34, .ref m35, .ref m36, .ref m37, .long z38, .ref m39, .ref m40, .int z41, .ref m42])), (qa, zaJ k 4 fu), (m4, zaJ k 9 (vp_updL (vp_updL (vp_updL (vp_updL (vp_updL (vp_updL (vp_updL f4 0 (268435456 - (2 * (sar (((fu 2) * (fu 2)) + ((fu 3) * (fu 3))) 28)))) 1 (2 * (sar (((fu 1) * (fu 2)) - ((fu 0) * (fu 3))) 28))) 2 (2 * (sar (((fu 1) * (fu 3)) + ((fu 0) * (fu 2))) 28))) 3 (2 * (sar (((fu 1) * (fu 2)) + ((fu 0) * (fu 3))) 28))) 4 (268435456 - (2 * (sar (((fu 1) * (fu 1)) + ((fu 3) * (fu 3))) 28)))) 5 (2 * (sar (((fu 2) * (fu 3)) - ((fu 0) * (fu 1))) 28))) 6 (2 * (sar (((fu 1) * (fu 3)) - ((fu 0) * (fu 2))) 28))))]) rfl dX9_laysMatrix_190 (fun H locs hP hD hS => ?_)
  refine lv_aload_n hx hb dX9_laysMatrix_191 rfl (lv_at hl 4 rfl) ?_
  refine va_get (D := D) (ci := 8) (v := .ref m4) (C := RX9) (T := TX9) (N := 43) hx hb hts hinX9 hown hK hP 0 rfl rfl 4 (Nat.le_of_ble_eq_true rfl) hl22 (fun _ h9 => h9) rfl dX9_laysMatrix_192 ?_
  refine lv_bipush (v := 7) hx hb dX9_laysMatrix_195 (by decide) ?_
  refine lv_ldc2 hx hb hown hl105 dX9_laysMatrix_197 ?_
  refine lv_lload hx hb dX9_laysMatrix_200 (lv_at hl 1 rfl) ?_
  refine lv_lload hx hb dX9_laysMatrix_202 (lv_at hl 0 rfl) ?_
  refine lv_lmul hx hb dX9_laysMatrix_204 ?_
  refine lv_lload_n hx hb dX9_laysMatrix_205 rfl (lv_at hl 3 rfl) ?_
  refine lv_lload hx hb dX9_laysMatrix_206 (lv_at hl 2 rfl) ?_
  refine lv_lmul hx hb dX9_laysMatrix_208 ?_
  refine lv_ladd hx hb dX9_laysMatrix_209 ?_
  refine lv_bipush (v := 28) hx hb dX9_laysMatrix_210 (by decide) ?_
  refine lv_lshr (v := sar (((fu 2) * (fu 3)) + ((fu 0) * (fu 1))) 28) hx hb dX9_laysMatrix_212 rfl ?_
  refine lv_lmul hx hb dX9_laysMatrix_213 ?_
  refine z_last hx hb hK hP hD hS 2 rfl 7 zx7 (by decide) (ws' := [(o, .inr (8, [.ref m0, .ref m1, .ref m2, .ref m3, .ref m4, .ref m5, .ref m6, .ref m7, .ref m8, .ref m9, .ref m10, .ref m11, .ref m12, .long z13, .long z14, .int z15, .int z16, .int z17, .ref m18, .ref m19, .int z20, .ref m21, .ref m22, .ref m23, .ref m24, .ref m25, .int z26, .int z27, .int z28, .int z29, .int z30, .ref m31, .ref m32, .ref m33, .ref m34, .ref m35, .ref m36, .ref m37, .long z38, .ref m39, .ref m40, .int z41, .ref m42])), (qa, zaJ k 4 fu), (m4, zaJ k 9 (vp_updL (vp_updL (vp_updL (vp_updL (vp_updL (vp_updL (vp_updL (vp_updL f4 0 (268435456 - (2 * (sar (((fu 2) * (fu 2)) + ((fu 3) * (fu 3))) 28)))) 1 (2 * (sar (((fu 1) * (fu 2)) - ((fu 0) * (fu 3))) 28))) 2 (2 * (sar (((fu 1) * (fu 3)) + ((fu 0) * (fu 2))) 28))) 3 (2 * (sar (((fu 1) * (fu 2)) + ((fu 0) * (fu 3))) 28))) 4 (268435456 - (2 * (sar (((fu 1) * (fu 1)) + ((fu 3) * (fu 3))) 28)))) 5 (2 * (sar (((fu 2) * (fu 3)) - ((fu 0) * (fu 1))) 28))) 6 (2 * (sar (((fu 1) * (fu 3)) - ((fu 0) * (fu 2))) 28))) 7 (2 * (sar (((fu 2) * (fu 3)) + ((fu 0) * (fu 1))) 28))))]) rfl dX9_laysMatrix_214 (fun H locs hP hD hS => ?_)
  refine lv_aload_n hx hb dX9_laysMatrix_215 rfl (lv_at hl 4 rfl) ?_
  refine va_get (D := D) (ci := 8) (v := .ref m4) (C := RX9) (T := TX9) (N := 43) hx hb hts hinX9 hown hK hP 0 rfl rfl 4 (Nat.le_of_ble_eq_true rfl) hl22 (fun _ h9 => h9) rfl dX9_laysMatrix_216 ?_
  refine lv_bipush (v := 8) hx hb dX9_laysMatrix_219 (by decide) ?_
  refine lv_ldc2 hx hb hown hl113 dX9_laysMatrix_221 ?_
  refine lv_ldc2 hx hb hown hl105 dX9_laysMatrix_224 ?_
  refine lv_lload hx hb dX9_laysMatrix_227 (lv_at hl 2 rfl) ?_
  refine lv_lload hx hb dX9_laysMatrix_229 (lv_at hl 2 rfl) ?_
  refine lv_lmul hx hb dX9_laysMatrix_231 ?_
  refine lv_lload hx hb dX9_laysMatrix_232 (lv_at hl 1 rfl) ?_
  refine lv_lload hx hb dX9_laysMatrix_234 (lv_at hl 1 rfl) ?_
  refine lv_lmul hx hb dX9_laysMatrix_236 ?_
  refine lv_ladd hx hb dX9_laysMatrix_237 ?_
  refine lv_bipush (v := 28) hx hb dX9_laysMatrix_238 (by decide) ?_
  refine lv_lshr (v := sar (((fu 1) * (fu 1)) + ((fu 2) * (fu 2))) 28) hx hb dX9_laysMatrix_240 rfl ?_
  refine lv_lmul hx hb dX9_laysMatrix_241 ?_
  refine lv_lsub hx hb dX9_laysMatrix_242 ?_
  refine z_last hx hb hK hP hD hS 2 rfl 8 zx8 (by decide) (ws' := [(o, .inr (8, [.ref m0, .ref m1, .ref m2, .ref m3, .ref m4, .ref m5, .ref m6, .ref m7, .ref m8, .ref m9, .ref m10, .ref m11, .ref m12, .long z13, .long z14, .int z15, .int z16, .int z17, .ref m18, .ref m19, .int z20, .ref m21, .ref m22, .ref m23, .ref m24, .ref m25, .int z26, .int z27, .int z28, .int z29, .int z30, .ref m31, .ref m32, .ref m33, .ref m34, .ref m35, .ref m36, .ref m37, .long z38, .ref m39, .ref m40, .int z41, .ref m42])), (qa, zaJ k 4 fu), (m4, zaJ k 9 (vp_updL (vp_updL (vp_updL (vp_updL (vp_updL (vp_updL (vp_updL (vp_updL (vp_updL f4 0 (268435456 - (2 * (sar (((fu 2) * (fu 2)) + ((fu 3) * (fu 3))) 28)))) 1 (2 * (sar (((fu 1) * (fu 2)) - ((fu 0) * (fu 3))) 28))) 2 (2 * (sar (((fu 1) * (fu 3)) + ((fu 0) * (fu 2))) 28))) 3 (2 * (sar (((fu 1) * (fu 2)) + ((fu 0) * (fu 3))) 28))) 4 (268435456 - (2 * (sar (((fu 1) * (fu 1)) + ((fu 3) * (fu 3))) 28)))) 5 (2 * (sar (((fu 2) * (fu 3)) - ((fu 0) * (fu 1))) 28))) 6 (2 * (sar (((fu 1) * (fu 3)) - ((fu 0) * (fu 2))) 28))) 7 (2 * (sar (((fu 2) * (fu 3)) + ((fu 0) * (fu 1))) 28))) 8 (268435456 - (2 * (sar (((fu 1) * (fu 1)) + ((fu 2) * (fu 2))) 28)))))]) rfl dX9_laysMatrix_243 (fun H locs hP hD hS => ?_)
  have hP := z_congJ hP 2 rfl (g := mat9 fu) (by exact zall9 (Eq.trans rfl (mat9_0 fu).symm) (Eq.trans rfl (mat9_1 fu).symm) (Eq.trans rfl (mat9_2 fu).symm) (Eq.trans rfl (mat9_3 fu).symm) (Eq.trans rfl (mat9_4 fu).symm) (Eq.trans rfl (mat9_5 fu).symm) (Eq.trans rfl (mat9_6 fu).symm) (Eq.trans rfl (mat9_7 fu).symm) (Eq.trans rfl (mat9_8 fu).symm)) (ws' := [(o, .inr (8, [.ref m0, .ref m1, .ref m2, .ref m3, .ref m4, .ref m5, .ref m6, .ref m7, .ref m8, .ref m9, .ref m10, .ref m11, .ref m12, .long z13, .long z14, .int z15, .int z16, .int z17, .ref m18, .ref m19, .int z20, .ref m21, .ref m22, .ref m23, .ref m24, .ref m25, .int z26, .int z27, .int z28, .int z29, .int z30, .ref m31, .ref m32, .ref m33, .ref m34, .ref m35, .ref m36, .ref m37, .long z38, .ref m39, .ref m40, .int z41, .ref m42])), (qa, zaJ k 4 fu), (m4, zaJ k 9 (mat9 fu))]) rfl
  have hD := z_congDJ hD 2 rfl (g := mat9 fu) (ws' := [(o, .inr (8, [.ref m0, .ref m1, .ref m2, .ref m3, .ref m4, .ref m5, .ref m6, .ref m7, .ref m8, .ref m9, .ref m10, .ref m11, .ref m12, .long z13, .long z14, .int z15, .int z16, .int z17, .ref m18, .ref m19, .int z20, .ref m21, .ref m22, .ref m23, .ref m24, .ref m25, .int z26, .int z27, .int z28, .int z29, .int z30, .ref m31, .ref m32, .ref m33, .ref m34, .ref m35, .ref m36, .ref m37, .long z38, .ref m39, .ref m40, .int z41, .ref m42])), (qa, zaJ k 4 fu), (m4, zaJ k 9 (mat9 fu))]) rfl
  have hP9 := hP.sub (ws' := [(o, .inr (8, [.ref m0, .ref m1, .ref m2, .ref m3, .ref m4, .ref m5, .ref m6, .ref m7, .ref m8, .ref m9, .ref m10, .ref m11, .ref m12, .long z13, .long z14, .int z15, .int z16, .int z17, .ref m18, .ref m19, .int z20, .ref m21, .ref m22, .ref m23, .ref m24, .ref m25, .int z26, .int z27, .int z28, .int z29, .int z30, .ref m31, .ref m32, .ref m33, .ref m34, .ref m35, .ref m36, .ref m37, .long z38, .ref m39, .ref m40, .int z41, .ref m42])), (qa, zaJ k 4 fu), (m4, zaJ k 9 (mat9 fu))]) [0, 1, 2] rfl
  have hD9 := hD.sub (ws' := [(o, .inr (8, [.ref m0, .ref m1, .ref m2, .ref m3, .ref m4, .ref m5, .ref m6, .ref m7, .ref m8, .ref m9, .ref m10, .ref m11, .ref m12, .long z13, .long z14, .int z15, .int z16, .int z17, .ref m18, .ref m19, .int z20, .ref m21, .ref m22, .ref m23, .ref m24, .ref m25, .int z26, .int z27, .int z28, .int z29, .int z30, .ref m31, .ref m32, .ref m33, .ref m34, .ref m35, .ref m36, .ref m37, .long z38, .ref m39, .ref m40, .int z41, .ref m42])), (qa, zaJ k 4 fu), (m4, zaJ k 9 (mat9 fu))]) [0, 1, 2] (by decide) rfl
  exact W.vret hx hb hr (fun t9 ht9 hW9 => ⟨⟨[(o, .inr (8, [.ref m0, .ref m1, .ref m2, .ref m3, .ref m4, .ref m5, .ref m6, .ref m7, .ref m8, .ref m9, .ref m10, .ref m11, .ref m12, .long z13, .long z14, .int z15, .int z16, .int z17, .ref m18, .ref m19, .int z20, .ref m21, .ref m22, .ref m23, .ref m24, .ref m25, .int z26, .int z27, .int z28, .int z29, .int z30, .ref m31, .ref m32, .ref m33, .ref m34, .ref m35, .ref m36, .ref m37, .long z38, .ref m39, .ref m40, .int z41, .ref m42])), (qa, zaJ k 4 fu), (m4, zaJ k 9 (mat9 fu))], rfl, rfl, by rw [ht9]; exact hP9, hD9⟩, hS.F ht9⟩) hS.2.2 dX9_laysMatrix_244
set_option maxHeartbeats 4000000 in
set_option maxRecDepth 100000 in
theorem c_X9_laysBody (l : Launch) (D : va_G) (k : Nat → ClassId) (sz : Nat) (o m0 m1 m2 m3 m4 m5 m6 m7 m8 m9 m10 m11 m12 m18 m19 m21 m22 m23 m24 m25 m31 m32 m33 m34 m35 m36 m37 m39 m40 m42 : Nat) (z13 z14 z38 : Int64) (z15 z16 z17 z20 z26 z27 z28 z29 z30 z41 : Int32) (qa : Nat) (fu f4 f5 : Nat → Int64) (x y z : Int64) : Met l yX9_laysBody wsX9_laysBody ({ frames := 1, cells := 0, slots := 0, locals := 29 } : Room) (va_Pc [.ref o, .ref qa, .long x, .long y, .long z] (zPre D k [(o, .inr (8, [.ref m0, .ref m1, .ref m2, .ref m3, .ref m4, .ref m5, .ref m6, .ref m7, .ref m8, .ref m9, .ref m10, .ref m11, .ref m12, .long z13, .long z14, .int z15, .int z16, .int z17, .ref m18, .ref m19, .int z20, .ref m21, .ref m22, .ref m23, .ref m24, .ref m25, .int z26, .int z27, .int z28, .int z29, .int z30, .ref m31, .ref m32, .ref m33, .ref m34, .ref m35, .ref m36, .ref m37, .long z38, .ref m39, .ref m40, .int z41, .ref m42])), (qa, zaJ k 4 fu), (m4, zaJ k 9 f4), (m5, zaJ k 3 f5)] sz zX0)) (zQv D [(o, .inr (8, [.ref m0, .ref m1, .ref m2, .ref m3, .ref m4, .ref m5, .ref m6, .ref m7, .ref m8, .ref m9, .ref m10, .ref m11, .ref m12, .long z13, .long z14, .int z15, .int z16, .int z17, .ref m18, .ref m19, .int z20, .ref m21, .ref m22, .ref m23, .ref m24, .ref m25, .int z26, .int z27, .int z28, .int z29, .int z30, .ref m31, .ref m32, .ref m33, .ref m34, .ref m35, .ref m36, .ref m37, .long z38, .ref m39, .ref m40, .int z41, .ref m42])), (qa, zaJ k 4 fu), (m4, zaJ k 9 f4), (m5, zaJ k 3 f5)] sz (fun w : va_W => w = [(o, .inr (8, [.ref m0, .ref m1, .ref m2, .ref m3, .ref m4, .ref m5, .ref m6, .ref m7, .ref m8, .ref m9, .ref m10, .ref m11, .ref m12, .long z13, .long z14, .int z15, .int z16, .int z17, .ref m18, .ref m19, .int z20, .ref m21, .ref m22, .ref m23, .ref m24, .ref m25, .int z26, .int z27, .int z28, .int z29, .int z30, .ref m31, .ref m32, .ref m33, .ref m34, .ref m35, .ref m36, .ref m37, .long z38, .ref m39, .ref m40, .int z41, .ref m42])), (qa, zaJ k 4 fu), (m4, zaJ k 9 (mat9 fu)), (m5, zaJ k 3 (bodyq fu x y z))])) 0 0 (va_A [(o, .inr (8, [.ref m0, .ref m1, .ref m2, .ref m3, .ref m4, .ref m5, .ref m6, .ref m7, .ref m8, .ref m9, .ref m10, .ref m11, .ref m12, .long z13, .long z14, .int z15, .int z16, .int z17, .ref m18, .ref m19, .int z20, .ref m21, .ref m22, .ref m23, .ref m24, .ref m25, .int z26, .int z27, .int z28, .int z29, .int z30, .ref m31, .ref m32, .ref m33, .ref m34, .ref m35, .ref m36, .ref m37, .long z38, .ref m39, .ref m40, .int z41, .ref m42])), (qa, zaJ k 4 fu), (m4, zaJ k 9 f4), (m5, zaJ k 3 f5)] sz) := by
  refine Met.ofW (cc := cX9_laysBody) (maxL := 9) (ret := none) (by decide) rfl ?_
  intro p e s m args below meth c s₁ B hml hv
  obtain ⟨rfl, hsz, hP, hK, hD0, hE⟩ := hv
  have hx := B.exec
  have hb := B.bytes
  have hr := B.returns
  have hts := atoms_spec (ws := wsX9_laysBody) B.pre
  have hown : s.vm.findClass RX9 = some m.cls := findClass_of_methodNamed B.named
  have hlocks := B.notSynchronized
  subst hsz
  have hD := hD0.self (sz := s.heap.size)
  delta zQv zB
  generalize hAe : va_A [(o, .inr (8, [.ref m0, .ref m1, .ref m2, .ref m3, .ref m4, .ref m5, .ref m6, .ref m7, .ref m8, .ref m9, .ref m10, .ref m11, .ref m12, .long z13, .long z14, .int z15, .int z16, .int z17, .ref m18, .ref m19, .int z20, .ref m21, .ref m22, .ref m23, .ref m24, .ref m25, .int z26, .int z27, .int z28, .int z29, .int z30, .ref m31, .ref m32, .ref m33, .ref m34, .ref m35, .ref m36, .ref m37, .long z38, .ref m39, .ref m40, .int z41, .ref m42])), (qa, zaJ k 4 fu), (m4, zaJ k 9 f4), (m5, zaJ k 3 f5)] s.heap.size = A at hD hE ⊢
  have hA : ∀ q : Nat, s.heap.size ≤ q → A q := fun q h => by rw [← hAe]; exact Or.inr h
  have hS : va_S A s.heap s.heap [] := va_S.rf
  have hl := lv_entry [.ref o, .ref qa, .long x, .long y, .long z] (n := 9) (Nat.le_of_ble_eq_true rfl)
  rw [lg_entry_eq]
  generalize (lg_sl [.ref o, .ref qa, .long x, .long y, .long z] ++ List.replicate (9 - (lg_sl [.ref o, .ref qa, .long x, .long y, .long z]).length) Slot.unset).toArray = ls at hl ⊢
  have hl : lv_has ls 9 [(0, .ref o), (1, .ref qa), (2, .long x), (4, .long y), (6, .long z)] := hl
  have hl25 : (Cond.fieldLink RX9 25 "InertialReferenceModel" "body" "[J").before #[Value.ref o, Value.ref qa, Value.long x, Value.long y, Value.long z] s = true := zw hts 1 rfl
  have hinX9 : ∀ w ∈ u_ws RX9 TX9 43, w ∈ wsX9_laysBody := fun w h => List.mem_cons_of_mem _ (List.mem_append_right _ h)
  have hl22 : (Cond.fieldLink RX9 22 "InertialReferenceModel" "matrix" "[J").before #[Value.ref o, Value.ref qa, Value.long x, Value.long y, Value.long z] s = true := zw hts 2 rfl
  refine lv_aload_n hx hb dX9_laysBody_0 rfl (lv_at hl 0 rfl) ?_
  refine lv_aload_n hx hb dX9_laysBody_1 rfl (lv_at hl 1 rfl) ?_
  refine z_callv0 (wc := [(o, .inr (8, [.ref m0, .ref m1, .ref m2, .ref m3, .ref m4, .ref m5, .ref m6, .ref m7, .ref m8, .ref m9, .ref m10, .ref m11, .ref m12, .long z13, .long z14, .int z15, .int z16, .int z17, .ref m18, .ref m19, .int z20, .ref m21, .ref m22, .ref m23, .ref m24, .ref m25, .int z26, .int z27, .int z28, .int z29, .int z30, .ref m31, .ref m32, .ref m33, .ref m34, .ref m35, .ref m36, .ref m37, .long z38, .ref m39, .ref m40, .int z41, .ref m42])), (qa, zaJ k 4 fu), (m4, zaJ k 9 f4)]) (wr := [(m5, zaJ k 3 f5)]) (va_runV (As := [.ref qa]) (rest := []) ⟨hx, hb, hml, hown, hts⟩ (c_X9_laysMatrix l D k s.heap.size o m0 m1 m2 m3 m4 m5 m6 m7 m8 m9 m10 m11 m12 m18 m19 m21 m22 m23 m24 m25 m31 m32 m33 m34 m35 m36 m37 m39 m40 m42 z13 z14 z38 z15 z16 z17 z20 z26 z27 z28 z29 z30 z41 qa fu f4) (cwV 1 hts gX9_laysBody_X9_laysMatrix rfl rfl rfl (by decide +kernel) ⟨Nat.le_of_ble_eq_true rfl, Nat.le_of_ble_eq_true rfl⟩) (z_preV (wc := [(o, .inr (8, [.ref m0, .ref m1, .ref m2, .ref m3, .ref m4, .ref m5, .ref m6, .ref m7, .ref m8, .ref m9, .ref m10, .ref m11, .ref m12, .long z13, .long z14, .int z15, .int z16, .int z17, .ref m18, .ref m19, .int z20, .ref m21, .ref m22, .ref m23, .ref m24, .ref m25, .int z26, .int z27, .int z28, .int z29, .int z30, .ref m31, .ref m32, .ref m33, .ref m34, .ref m35, .ref m36, .ref m37, .long z38, .ref m39, .ref m40, .int z41, .ref m42])), (qa, zaJ k 4 fu), (m4, zaJ k 9 f4)]) 0 8 hP hD hK [0, 1, 2] rfl rfl rfl rfl zb0 zp0) rfl rfl hl.1 rfl (lv_room (Nat.le_of_ble_eq_true rfl)) dX9_laysBody_2 ⟨Nat.zero_le _, Nat.zero_le _⟩) hP hD hS hA [0, 1, 2] [3] rfl rfl rfl (by decide) (fun w H locs hF hP hD hS => ?_)
  subst hF
  have hP : va_P D vwCl [(m5, zaJ k 3 f5), (o, .inr (8, [.ref m0, .ref m1, .ref m2, .ref m3, .ref m4, .ref m5, .ref m6, .ref m7, .ref m8, .ref m9, .ref m10, .ref m11, .ref m12, .long z13, .long z14, .int z15, .int z16, .int z17, .ref m18, .ref m19, .int z20, .ref m21, .ref m22, .ref m23, .ref m24, .ref m25, .int z26, .int z27, .int z28, .int z29, .int z30, .ref m31, .ref m32, .ref m33, .ref m34, .ref m35, .ref m36, .ref m37, .long z38, .ref m39, .ref m40, .int z41, .ref m42])), (qa, zaJ k 4 fu), (m4, zaJ k 9 (mat9 fu))] H := hP
  have hD : va_D A [(m5, zaJ k 3 f5), (o, .inr (8, [.ref m0, .ref m1, .ref m2, .ref m3, .ref m4, .ref m5, .ref m6, .ref m7, .ref m8, .ref m9, .ref m10, .ref m11, .ref m12, .long z13, .long z14, .int z15, .int z16, .int z17, .ref m18, .ref m19, .int z20, .ref m21, .ref m22, .ref m23, .ref m24, .ref m25, .int z26, .int z27, .int z28, .int z29, .int z30, .ref m31, .ref m32, .ref m33, .ref m34, .ref m35, .ref m36, .ref m37, .long z38, .ref m39, .ref m40, .int z41, .ref m42])), (qa, zaJ k 4 fu), (m4, zaJ k 9 (mat9 fu))] := hD
  refine lv_iconst (v := 0) hx hb dX9_laysBody_5 (by decide) ?_
  refine lv_istore (lv' := [(8, .int 0), (0, .ref o), (1, .ref qa), (2, .long x), (4, .long y), (6, .long z)]) hx hb dX9_laysBody_6 hl (by decide) rfl (fun ls hl => ?_)
  refine lv_iload hx hb dX9_laysBody_8 (lv_at hl 0 rfl) ?_
  refine lv_iconst (v := 3) hx hb dX9_laysBody_10 (by decide) ?_
  refine lv_icmp_ge (tgt := 66) hx hb dX9_laysBody_11 (by decide) (fun c => absurd c (by decide)) (fun _ => ?_)
  refine lv_aload_n hx hb dX9_laysBody_14 rfl (lv_at hl 1 rfl) ?_
  refine va_get (D := D) (ci := 8) (v := .ref m5) (C := RX9) (T := TX9) (N := 43) hx hb hts hinX9 hown hK hP 1 rfl rfl 5 (Nat.le_of_ble_eq_true rfl) hl25 (fun _ h9 => h9) rfl dX9_laysBody_15 ?_
  refine lv_iload hx hb dX9_laysBody_18 (lv_at hl 0 rfl) ?_
  refine lv_aload_n hx hb dX9_laysBody_20 rfl (lv_at hl 1 rfl) ?_
  refine va_get (D := D) (ci := 8) (v := .ref m4) (C := RX9) (T := TX9) (N := 43) hx hb hts hinX9 hown hK hP 1 rfl rfl 4 (Nat.le_of_ble_eq_true rfl) hl22 (fun _ h9 => h9) rfl dX9_laysBody_21 ?_
  refine lv_iload hx hb dX9_laysBody_24 (lv_at hl 0 rfl) ?_
  refine z_lald hx hb hK hP 3 rfl 0 zx0 (by decide) (v := (mat9 fu) 0) rfl dX9_laysBody_26 ?_
  refine lv_lload_n hx hb dX9_laysBody_27 rfl (lv_at hl 3 rfl) ?_
  refine lv_lmul hx hb dX9_laysBody_28 ?_
  refine lv_aload_n hx hb dX9_laysBody_29 rfl (lv_at hl 1 rfl) ?_
  refine va_get (D := D) (ci := 8) (v := .ref m4) (C := RX9) (T := TX9) (N := 43) hx hb hts hinX9 hown hK hP 1 rfl rfl 4 (Nat.le_of_ble_eq_true rfl) hl22 (fun _ h9 => h9) rfl dX9_laysBody_30 ?_
  refine lv_iconst (v := 3) hx hb dX9_laysBody_33 (by decide) ?_
  refine lv_iload hx hb dX9_laysBody_34 (lv_at hl 0 rfl) ?_
  refine lv_iadd hx hb dX9_laysBody_36 ?_
  refine W.eq (g2 := F0 m 37 ls (.int 3 :: [.ref m4, .long (((mat9 fu) 0) * x), .int 0, .ref m5])) (by rw [show (3 : Int32) + 0 = 3 from by decide]) ?_
  refine z_lald hx hb hK hP 3 rfl 3 zx3 (by decide) (v := (mat9 fu) 3) rfl dX9_laysBody_37 ?_
  refine lv_lload hx hb dX9_laysBody_38 (lv_at hl 4 rfl) ?_
  refine lv_lmul hx hb dX9_laysBody_40 ?_
  refine lv_ladd hx hb dX9_laysBody_41 ?_
  refine lv_aload_n hx hb dX9_laysBody_42 rfl (lv_at hl 1 rfl) ?_
  refine va_get (D := D) (ci := 8) (v := .ref m4) (C := RX9) (T := TX9) (N := 43) hx hb hts hinX9 hown hK hP 1 rfl rfl 4 (Nat.le_of_ble_eq_true rfl) hl22 (fun _ h9 => h9) rfl dX9_laysBody_43 ?_
  refine lv_bipush (v := 6) hx hb dX9_laysBody_46 (by decide) ?_
  refine lv_iload hx hb dX9_laysBody_48 (lv_at hl 0 rfl) ?_
  refine lv_iadd hx hb dX9_laysBody_50 ?_
  refine W.eq (g2 := F0 m 51 ls (.int 6 :: [.ref m4, .long ((((mat9 fu) 0) * x) + (((mat9 fu) 3) * y)), .int 0, .ref m5])) (by rw [show (6 : Int32) + 0 = 6 from by decide]) ?_
  refine z_lald hx hb hK hP 3 rfl 6 zx6 (by decide) (v := (mat9 fu) 6) rfl dX9_laysBody_51 ?_
  refine lv_lload hx hb dX9_laysBody_52 (lv_at hl 5 rfl) ?_
  refine lv_lmul hx hb dX9_laysBody_54 ?_
  refine lv_ladd hx hb dX9_laysBody_55 ?_
  refine lv_bipush (v := 28) hx hb dX9_laysBody_56 (by decide) ?_
  refine lv_lshr (v := sar (((((mat9 fu) 0) * x) + (((mat9 fu) 3) * y)) + (((mat9 fu) 6) * z)) 28) hx hb dX9_laysBody_58 rfl ?_
  refine z_last hx hb hK hP hD hS 0 rfl 0 zx0 (by decide) (ws' := [(m5, zaJ k 3 (vp_updL f5 0 (sar (((((mat9 fu) 0) * x) + (((mat9 fu) 3) * y)) + (((mat9 fu) 6) * z)) 28))), (o, .inr (8, [.ref m0, .ref m1, .ref m2, .ref m3, .ref m4, .ref m5, .ref m6, .ref m7, .ref m8, .ref m9, .ref m10, .ref m11, .ref m12, .long z13, .long z14, .int z15, .int z16, .int z17, .ref m18, .ref m19, .int z20, .ref m21, .ref m22, .ref m23, .ref m24, .ref m25, .int z26, .int z27, .int z28, .int z29, .int z30, .ref m31, .ref m32, .ref m33, .ref m34, .ref m35, .ref m36, .ref m37, .long z38, .ref m39, .ref m40, .int z41, .ref m42])), (qa, zaJ k 4 fu), (m4, zaJ k 9 (mat9 fu))]) rfl dX9_laysBody_59 (fun H locs hP hD hS => ?_)
  refine lv_iinc (v := 1) (lv' := [(8, .int 1), (0, .ref o), (1, .ref qa), (2, .long x), (4, .long y), (6, .long z)]) hx hb dX9_laysBody_60 hl (k := 0) rfl (by decide) (by decide) rfl (fun ls hl => ?_)
  refine lv_goto (tgt := 8) hx hb dX9_laysBody_63 (by decide) ?_
  refine lv_iload hx hb dX9_laysBody_8 (lv_at hl 0 rfl) ?_
  refine lv_iconst (v := 3) hx hb dX9_laysBody_10 (by decide) ?_
  refine lv_icmp_ge (tgt := 66) hx hb dX9_laysBody_11 (by decide) (fun c => absurd c (by decide)) (fun _ => ?_)
  refine lv_aload_n hx hb dX9_laysBody_14 rfl (lv_at hl 1 rfl) ?_
  refine va_get (D := D) (ci := 8) (v := .ref m5) (C := RX9) (T := TX9) (N := 43) hx hb hts hinX9 hown hK hP 1 rfl rfl 5 (Nat.le_of_ble_eq_true rfl) hl25 (fun _ h9 => h9) rfl dX9_laysBody_15 ?_
  refine lv_iload hx hb dX9_laysBody_18 (lv_at hl 0 rfl) ?_
  refine lv_aload_n hx hb dX9_laysBody_20 rfl (lv_at hl 1 rfl) ?_
  refine va_get (D := D) (ci := 8) (v := .ref m4) (C := RX9) (T := TX9) (N := 43) hx hb hts hinX9 hown hK hP 1 rfl rfl 4 (Nat.le_of_ble_eq_true rfl) hl22 (fun _ h9 => h9) rfl dX9_laysBody_21 ?_
  refine lv_iload hx hb dX9_laysBody_24 (lv_at hl 0 rfl) ?_
  refine z_lald hx hb hK hP 3 rfl 1 zx1 (by decide) (v := (mat9 fu) 1) rfl dX9_laysBody_26 ?_
  refine lv_lload_n hx hb dX9_laysBody_27 rfl (lv_at hl 3 rfl) ?_
  refine lv_lmul hx hb dX9_laysBody_28 ?_
  refine lv_aload_n hx hb dX9_laysBody_29 rfl (lv_at hl 1 rfl) ?_
  refine va_get (D := D) (ci := 8) (v := .ref m4) (C := RX9) (T := TX9) (N := 43) hx hb hts hinX9 hown hK hP 1 rfl rfl 4 (Nat.le_of_ble_eq_true rfl) hl22 (fun _ h9 => h9) rfl dX9_laysBody_30 ?_
  refine lv_iconst (v := 3) hx hb dX9_laysBody_33 (by decide) ?_
  refine lv_iload hx hb dX9_laysBody_34 (lv_at hl 0 rfl) ?_
  refine lv_iadd hx hb dX9_laysBody_36 ?_
  refine W.eq (g2 := F0 m 37 ls (.int 4 :: [.ref m4, .long (((mat9 fu) 1) * x), .int 1, .ref m5])) (by rw [show (3 : Int32) + 1 = 4 from by decide]) ?_
  refine z_lald hx hb hK hP 3 rfl 4 zx4 (by decide) (v := (mat9 fu) 4) rfl dX9_laysBody_37 ?_
  refine lv_lload hx hb dX9_laysBody_38 (lv_at hl 4 rfl) ?_
  refine lv_lmul hx hb dX9_laysBody_40 ?_
  refine lv_ladd hx hb dX9_laysBody_41 ?_
  refine lv_aload_n hx hb dX9_laysBody_42 rfl (lv_at hl 1 rfl) ?_
  refine va_get (D := D) (ci := 8) (v := .ref m4) (C := RX9) (T := TX9) (N := 43) hx hb hts hinX9 hown hK hP 1 rfl rfl 4 (Nat.le_of_ble_eq_true rfl) hl22 (fun _ h9 => h9) rfl dX9_laysBody_43 ?_
  refine lv_bipush (v := 6) hx hb dX9_laysBody_46 (by decide) ?_
  refine lv_iload hx hb dX9_laysBody_48 (lv_at hl 0 rfl) ?_
  refine lv_iadd hx hb dX9_laysBody_50 ?_
  refine W.eq (g2 := F0 m 51 ls (.int 7 :: [.ref m4, .long ((((mat9 fu) 1) * x) + (((mat9 fu) 4) * y)), .int 1, .ref m5])) (by rw [show (6 : Int32) + 1 = 7 from by decide]) ?_
  refine z_lald hx hb hK hP 3 rfl 7 zx7 (by decide) (v := (mat9 fu) 7) rfl dX9_laysBody_51 ?_
  refine lv_lload hx hb dX9_laysBody_52 (lv_at hl 5 rfl) ?_
  refine lv_lmul hx hb dX9_laysBody_54 ?_
  refine lv_ladd hx hb dX9_laysBody_55 ?_
  refine lv_bipush (v := 28) hx hb dX9_laysBody_56 (by decide) ?_
  refine lv_lshr (v := sar (((((mat9 fu) 1) * x) + (((mat9 fu) 4) * y)) + (((mat9 fu) 7) * z)) 28) hx hb dX9_laysBody_58 rfl ?_
  refine z_last hx hb hK hP hD hS 0 rfl 1 zx1 (by decide) (ws' := [(m5, zaJ k 3 (vp_updL (vp_updL f5 0 (sar (((((mat9 fu) 0) * x) + (((mat9 fu) 3) * y)) + (((mat9 fu) 6) * z)) 28)) 1 (sar (((((mat9 fu) 1) * x) + (((mat9 fu) 4) * y)) + (((mat9 fu) 7) * z)) 28))), (o, .inr (8, [.ref m0, .ref m1, .ref m2, .ref m3, .ref m4, .ref m5, .ref m6, .ref m7, .ref m8, .ref m9, .ref m10, .ref m11, .ref m12, .long z13, .long z14, .int z15, .int z16, .int z17, .ref m18, .ref m19, .int z20, .ref m21, .ref m22, .ref m23, .ref m24, .ref m25, .int z26, .int z27, .int z28, .int z29, .int z30, .ref m31, .ref m32, .ref m33, .ref m34, .ref m35, .ref m36, .ref m37, .long z38, .ref m39, .ref m40, .int z41, .ref m42])), (qa, zaJ k 4 fu), (m4, zaJ k 9 (mat9 fu))]) rfl dX9_laysBody_59 (fun H locs hP hD hS => ?_)
  refine lv_iinc (v := 2) (lv' := [(8, .int 2), (0, .ref o), (1, .ref qa), (2, .long x), (4, .long y), (6, .long z)]) hx hb dX9_laysBody_60 hl (k := 0) rfl (by decide) (by decide) rfl (fun ls hl => ?_)
  refine lv_goto (tgt := 8) hx hb dX9_laysBody_63 (by decide) ?_
  refine lv_iload hx hb dX9_laysBody_8 (lv_at hl 0 rfl) ?_
  refine lv_iconst (v := 3) hx hb dX9_laysBody_10 (by decide) ?_
  refine lv_icmp_ge (tgt := 66) hx hb dX9_laysBody_11 (by decide) (fun c => absurd c (by decide)) (fun _ => ?_)
  refine lv_aload_n hx hb dX9_laysBody_14 rfl (lv_at hl 1 rfl) ?_
  refine va_get (D := D) (ci := 8) (v := .ref m5) (C := RX9) (T := TX9) (N := 43) hx hb hts hinX9 hown hK hP 1 rfl rfl 5 (Nat.le_of_ble_eq_true rfl) hl25 (fun _ h9 => h9) rfl dX9_laysBody_15 ?_
  refine lv_iload hx hb dX9_laysBody_18 (lv_at hl 0 rfl) ?_
  refine lv_aload_n hx hb dX9_laysBody_20 rfl (lv_at hl 1 rfl) ?_
  refine va_get (D := D) (ci := 8) (v := .ref m4) (C := RX9) (T := TX9) (N := 43) hx hb hts hinX9 hown hK hP 1 rfl rfl 4 (Nat.le_of_ble_eq_true rfl) hl22 (fun _ h9 => h9) rfl dX9_laysBody_21 ?_
  refine lv_iload hx hb dX9_laysBody_24 (lv_at hl 0 rfl) ?_
  refine z_lald hx hb hK hP 3 rfl 2 zx2 (by decide) (v := (mat9 fu) 2) rfl dX9_laysBody_26 ?_
  refine lv_lload_n hx hb dX9_laysBody_27 rfl (lv_at hl 3 rfl) ?_
  refine lv_lmul hx hb dX9_laysBody_28 ?_
  refine lv_aload_n hx hb dX9_laysBody_29 rfl (lv_at hl 1 rfl) ?_
  refine va_get (D := D) (ci := 8) (v := .ref m4) (C := RX9) (T := TX9) (N := 43) hx hb hts hinX9 hown hK hP 1 rfl rfl 4 (Nat.le_of_ble_eq_true rfl) hl22 (fun _ h9 => h9) rfl dX9_laysBody_30 ?_
  refine lv_iconst (v := 3) hx hb dX9_laysBody_33 (by decide) ?_
  refine lv_iload hx hb dX9_laysBody_34 (lv_at hl 0 rfl) ?_
  refine lv_iadd hx hb dX9_laysBody_36 ?_
  refine W.eq (g2 := F0 m 37 ls (.int 5 :: [.ref m4, .long (((mat9 fu) 2) * x), .int 2, .ref m5])) (by rw [show (3 : Int32) + 2 = 5 from by decide]) ?_
  refine z_lald hx hb hK hP 3 rfl 5 zx5 (by decide) (v := (mat9 fu) 5) rfl dX9_laysBody_37 ?_
  refine lv_lload hx hb dX9_laysBody_38 (lv_at hl 4 rfl) ?_
  refine lv_lmul hx hb dX9_laysBody_40 ?_
  refine lv_ladd hx hb dX9_laysBody_41 ?_
  refine lv_aload_n hx hb dX9_laysBody_42 rfl (lv_at hl 1 rfl) ?_
  refine va_get (D := D) (ci := 8) (v := .ref m4) (C := RX9) (T := TX9) (N := 43) hx hb hts hinX9 hown hK hP 1 rfl rfl 4 (Nat.le_of_ble_eq_true rfl) hl22 (fun _ h9 => h9) rfl dX9_laysBody_43 ?_
  refine lv_bipush (v := 6) hx hb dX9_laysBody_46 (by decide) ?_
  refine lv_iload hx hb dX9_laysBody_48 (lv_at hl 0 rfl) ?_
  refine lv_iadd hx hb dX9_laysBody_50 ?_
  refine W.eq (g2 := F0 m 51 ls (.int 8 :: [.ref m4, .long ((((mat9 fu) 2) * x) + (((mat9 fu) 5) * y)), .int 2, .ref m5])) (by rw [show (6 : Int32) + 2 = 8 from by decide]) ?_
  refine z_lald hx hb hK hP 3 rfl 8 zx8 (by decide) (v := (mat9 fu) 8) rfl dX9_laysBody_51 ?_
  refine lv_lload hx hb dX9_laysBody_52 (lv_at hl 5 rfl) ?_
  refine lv_lmul hx hb dX9_laysBody_54 ?_
  refine lv_ladd hx hb dX9_laysBody_55 ?_
  refine lv_bipush (v := 28) hx hb dX9_laysBody_56 (by decide) ?_
  refine lv_lshr (v := sar (((((mat9 fu) 2) * x) + (((mat9 fu) 5) * y)) + (((mat9 fu) 8) * z)) 28) hx hb dX9_laysBody_58 rfl ?_
  refine z_last hx hb hK hP hD hS 0 rfl 2 zx2 (by decide) (ws' := [(m5, zaJ k 3 (vp_updL (vp_updL (vp_updL f5 0 (sar (((((mat9 fu) 0) * x) + (((mat9 fu) 3) * y)) + (((mat9 fu) 6) * z)) 28)) 1 (sar (((((mat9 fu) 1) * x) + (((mat9 fu) 4) * y)) + (((mat9 fu) 7) * z)) 28)) 2 (sar (((((mat9 fu) 2) * x) + (((mat9 fu) 5) * y)) + (((mat9 fu) 8) * z)) 28))), (o, .inr (8, [.ref m0, .ref m1, .ref m2, .ref m3, .ref m4, .ref m5, .ref m6, .ref m7, .ref m8, .ref m9, .ref m10, .ref m11, .ref m12, .long z13, .long z14, .int z15, .int z16, .int z17, .ref m18, .ref m19, .int z20, .ref m21, .ref m22, .ref m23, .ref m24, .ref m25, .int z26, .int z27, .int z28, .int z29, .int z30, .ref m31, .ref m32, .ref m33, .ref m34, .ref m35, .ref m36, .ref m37, .long z38, .ref m39, .ref m40, .int z41, .ref m42])), (qa, zaJ k 4 fu), (m4, zaJ k 9 (mat9 fu))]) rfl dX9_laysBody_59 (fun H locs hP hD hS => ?_)
  refine lv_iinc (v := 3) (lv' := [(8, .int 3), (0, .ref o), (1, .ref qa), (2, .long x), (4, .long y), (6, .long z)]) hx hb dX9_laysBody_60 hl (k := 0) rfl (by decide) (by decide) rfl (fun ls hl => ?_)
  refine lv_goto (tgt := 8) hx hb dX9_laysBody_63 (by decide) ?_
  refine lv_iload hx hb dX9_laysBody_8 (lv_at hl 0 rfl) ?_
  refine lv_iconst (v := 3) hx hb dX9_laysBody_10 (by decide) ?_
  refine lv_icmp_ge (tgt := 66) hx hb dX9_laysBody_11 (by decide) (fun _ => ?_) (fun c => absurd (by decide) c)
  have hP := z_congJ hP 0 rfl (g := bodyq fu x y z) (by exact zall3 (lb0 fu x y z) (lb1 fu x y z) (lb2 fu x y z)) (ws' := [(m5, zaJ k 3 (bodyq fu x y z)), (o, .inr (8, [.ref m0, .ref m1, .ref m2, .ref m3, .ref m4, .ref m5, .ref m6, .ref m7, .ref m8, .ref m9, .ref m10, .ref m11, .ref m12, .long z13, .long z14, .int z15, .int z16, .int z17, .ref m18, .ref m19, .int z20, .ref m21, .ref m22, .ref m23, .ref m24, .ref m25, .int z26, .int z27, .int z28, .int z29, .int z30, .ref m31, .ref m32, .ref m33, .ref m34, .ref m35, .ref m36, .ref m37, .long z38, .ref m39, .ref m40, .int z41, .ref m42])), (qa, zaJ k 4 fu), (m4, zaJ k 9 (mat9 fu))]) rfl
  have hD := z_congDJ hD 0 rfl (g := bodyq fu x y z) (ws' := [(m5, zaJ k 3 (bodyq fu x y z)), (o, .inr (8, [.ref m0, .ref m1, .ref m2, .ref m3, .ref m4, .ref m5, .ref m6, .ref m7, .ref m8, .ref m9, .ref m10, .ref m11, .ref m12, .long z13, .long z14, .int z15, .int z16, .int z17, .ref m18, .ref m19, .int z20, .ref m21, .ref m22, .ref m23, .ref m24, .ref m25, .int z26, .int z27, .int z28, .int z29, .int z30, .ref m31, .ref m32, .ref m33, .ref m34, .ref m35, .ref m36, .ref m37, .long z38, .ref m39, .ref m40, .int z41, .ref m42])), (qa, zaJ k 4 fu), (m4, zaJ k 9 (mat9 fu))]) rfl
  have hP9 := hP.sub (ws' := [(o, .inr (8, [.ref m0, .ref m1, .ref m2, .ref m3, .ref m4, .ref m5, .ref m6, .ref m7, .ref m8, .ref m9, .ref m10, .ref m11, .ref m12, .long z13, .long z14, .int z15, .int z16, .int z17, .ref m18, .ref m19, .int z20, .ref m21, .ref m22, .ref m23, .ref m24, .ref m25, .int z26, .int z27, .int z28, .int z29, .int z30, .ref m31, .ref m32, .ref m33, .ref m34, .ref m35, .ref m36, .ref m37, .long z38, .ref m39, .ref m40, .int z41, .ref m42])), (qa, zaJ k 4 fu), (m4, zaJ k 9 (mat9 fu)), (m5, zaJ k 3 (bodyq fu x y z))]) [1, 2, 3, 0] rfl
  have hD9 := hD.sub (ws' := [(o, .inr (8, [.ref m0, .ref m1, .ref m2, .ref m3, .ref m4, .ref m5, .ref m6, .ref m7, .ref m8, .ref m9, .ref m10, .ref m11, .ref m12, .long z13, .long z14, .int z15, .int z16, .int z17, .ref m18, .ref m19, .int z20, .ref m21, .ref m22, .ref m23, .ref m24, .ref m25, .int z26, .int z27, .int z28, .int z29, .int z30, .ref m31, .ref m32, .ref m33, .ref m34, .ref m35, .ref m36, .ref m37, .long z38, .ref m39, .ref m40, .int z41, .ref m42])), (qa, zaJ k 4 fu), (m4, zaJ k 9 (mat9 fu)), (m5, zaJ k 3 (bodyq fu x y z))]) [1, 2, 3, 0] (by decide) rfl
  exact W.vret hx hb hr (fun t9 ht9 hW9 => ⟨⟨[(o, .inr (8, [.ref m0, .ref m1, .ref m2, .ref m3, .ref m4, .ref m5, .ref m6, .ref m7, .ref m8, .ref m9, .ref m10, .ref m11, .ref m12, .long z13, .long z14, .int z15, .int z16, .int z17, .ref m18, .ref m19, .int z20, .ref m21, .ref m22, .ref m23, .ref m24, .ref m25, .int z26, .int z27, .int z28, .int z29, .int z30, .ref m31, .ref m32, .ref m33, .ref m34, .ref m35, .ref m36, .ref m37, .long z38, .ref m39, .ref m40, .int z41, .ref m42])), (qa, zaJ k 4 fu), (m4, zaJ k 9 (mat9 fu)), (m5, zaJ k 3 (bodyq fu x y z))], rfl, rfl, by rw [ht9]; exact hP9, hD9⟩, hS.F ht9⟩) hS.2.2 dX9_laysBody_66
set_option maxHeartbeats 4000000 in
set_option maxRecDepth 100000 in
theorem c_X9_laysEarth (l : Launch) (D : va_G) (k : Nat → ClassId) (sz : Nat) (o m0 m1 m2 m3 m4 m5 m6 m7 m8 m9 m10 m11 m12 m18 m19 m21 m22 m23 m24 m25 m31 m32 m33 m34 m35 m36 m37 m39 m40 m42 : Nat) (z13 z14 z38 : Int64) (z15 z16 z17 z20 z26 z27 z28 z29 z30 z41 : Int32) (qa : Nat) (fu f4 f5 : Nat → Int64) : Met l yX9_laysEarth wsX9_laysEarth ({ frames := 2, cells := 0, slots := 0, locals := 57 } : Room) (va_Pc [.ref o, .ref qa] (zPre D k [(o, .inr (8, [.ref m0, .ref m1, .ref m2, .ref m3, .ref m4, .ref m5, .ref m6, .ref m7, .ref m8, .ref m9, .ref m10, .ref m11, .ref m12, .long z13, .long z14, .int z15, .int z16, .int z17, .ref m18, .ref m19, .int z20, .ref m21, .ref m22, .ref m23, .ref m24, .ref m25, .int z26, .int z27, .int z28, .int z29, .int z30, .ref m31, .ref m32, .ref m33, .ref m34, .ref m35, .ref m36, .ref m37, .long z38, .ref m39, .ref m40, .int z41, .ref m42])), (qa, zaJ k 4 fu), (m4, zaJ k 9 f4), (m5, zaJ k 3 f5)] sz zX0)) (zQv D [(o, .inr (8, [.ref m0, .ref m1, .ref m2, .ref m3, .ref m4, .ref m5, .ref m6, .ref m7, .ref m8, .ref m9, .ref m10, .ref m11, .ref m12, .long z13, .long z14, .int z15, .int z16, .int z17, .ref m18, .ref m19, .int z20, .ref m21, .ref m22, .ref m23, .ref m24, .ref m25, .int z26, .int z27, .int z28, .int z29, .int z30, .ref m31, .ref m32, .ref m33, .ref m34, .ref m35, .ref m36, .ref m37, .long z38, .ref m39, .ref m40, .int z41, .ref m42])), (qa, zaJ k 4 fu), (m4, zaJ k 9 f4), (m5, zaJ k 3 f5)] sz (fun w : va_W => w = [(o, .inr (8, [.ref m0, .ref m1, .ref m2, .ref m3, .ref m4, .ref m5, .ref m6, .ref m7, .ref m8, .ref m9, .ref m10, .ref m11, .ref m12, .long z13, .long z14, .int z15, .int z16, .int z17, .ref m18, .ref m19, .int z20, .ref m21, .ref m22, .ref m23, .ref m24, .ref m25, .int z26, .int z27, .int z28, .int z29, .int z30, .ref m31, .ref m32, .ref m33, .ref m34, .ref m35, .ref m36, .ref m37, .long z38, .ref m39, .ref m40, .int z41, .ref m42])), (qa, zaJ k 4 fu), (m4, zaJ k 9 (mat9 fu)), (m5, zaJ k 3 (bodyq fu z13 0 z14))])) 0 0 (va_A [(o, .inr (8, [.ref m0, .ref m1, .ref m2, .ref m3, .ref m4, .ref m5, .ref m6, .ref m7, .ref m8, .ref m9, .ref m10, .ref m11, .ref m12, .long z13, .long z14, .int z15, .int z16, .int z17, .ref m18, .ref m19, .int z20, .ref m21, .ref m22, .ref m23, .ref m24, .ref m25, .int z26, .int z27, .int z28, .int z29, .int z30, .ref m31, .ref m32, .ref m33, .ref m34, .ref m35, .ref m36, .ref m37, .long z38, .ref m39, .ref m40, .int z41, .ref m42])), (qa, zaJ k 4 fu), (m4, zaJ k 9 f4), (m5, zaJ k 3 f5)] sz) := by
  refine Met.ofW (cc := cX9_laysEarth) (maxL := 2) (ret := none) (by decide) rfl ?_
  intro p e s m args below meth c s₁ B hml hv
  obtain ⟨rfl, hsz, hP, hK, hD0, hE⟩ := hv
  have hx := B.exec
  have hb := B.bytes
  have hr := B.returns
  have hts := atoms_spec (ws := wsX9_laysEarth) B.pre
  have hown : s.vm.findClass RX9 = some m.cls := findClass_of_methodNamed B.named
  have hlocks := B.notSynchronized
  subst hsz
  have hD := hD0.self (sz := s.heap.size)
  delta zQv zB
  generalize hAe : va_A [(o, .inr (8, [.ref m0, .ref m1, .ref m2, .ref m3, .ref m4, .ref m5, .ref m6, .ref m7, .ref m8, .ref m9, .ref m10, .ref m11, .ref m12, .long z13, .long z14, .int z15, .int z16, .int z17, .ref m18, .ref m19, .int z20, .ref m21, .ref m22, .ref m23, .ref m24, .ref m25, .int z26, .int z27, .int z28, .int z29, .int z30, .ref m31, .ref m32, .ref m33, .ref m34, .ref m35, .ref m36, .ref m37, .long z38, .ref m39, .ref m40, .int z41, .ref m42])), (qa, zaJ k 4 fu), (m4, zaJ k 9 f4), (m5, zaJ k 3 f5)] s.heap.size = A at hD hE ⊢
  have hA : ∀ q : Nat, s.heap.size ≤ q → A q := fun q h => by rw [← hAe]; exact Or.inr h
  have hS : va_S A s.heap s.heap [] := va_S.rf
  have hl := lv_entry [.ref o, .ref qa] (n := 2) (Nat.le_of_ble_eq_true rfl)
  rw [lg_entry_eq]
  generalize (lg_sl [.ref o, .ref qa] ++ List.replicate (2 - (lg_sl [.ref o, .ref qa]).length) Slot.unset).toArray = ls at hl ⊢
  have hl : lv_has ls 2 [(0, .ref o), (1, .ref qa)] := hl
  have hl119 : (Cond.fieldLink RX9 119 "InertialReferenceModel" "earthNorth" "J").before #[Value.ref o, Value.ref qa] s = true := zw hts 1 rfl
  have hinX9 : ∀ w ∈ u_ws RX9 TX9 43, w ∈ wsX9_laysEarth := fun w h => List.mem_cons_of_mem _ (List.mem_append_right _ h)
  have hl123 : (Cond.fieldLink RX9 123 "InertialReferenceModel" "earthDown" "J").before #[Value.ref o, Value.ref qa] s = true := zw hts 2 rfl
  refine lv_aload_n hx hb dX9_laysEarth_0 rfl (lv_at hl 0 rfl) ?_
  refine lv_aload_n hx hb dX9_laysEarth_1 rfl (lv_at hl 1 rfl) ?_
  refine lv_aload_n hx hb dX9_laysEarth_2 rfl (lv_at hl 0 rfl) ?_
  refine va_get (D := D) (ci := 8) (v := .long z13) (C := RX9) (T := TX9) (N := 43) hx hb hts hinX9 hown hK hP 0 rfl rfl 13 (Nat.le_of_ble_eq_true rfl) hl119 (fun _ h9 => h9) rfl dX9_laysEarth_3 ?_
  refine lv_lconst (v := 0) hx hb dX9_laysEarth_6 (by decide) ?_
  refine lv_aload_n hx hb dX9_laysEarth_7 rfl (lv_at hl 0 rfl) ?_
  refine va_get (D := D) (ci := 8) (v := .long z14) (C := RX9) (T := TX9) (N := 43) hx hb hts hinX9 hown hK hP 0 rfl rfl 14 (Nat.le_of_ble_eq_true rfl) hl123 (fun _ h9 => h9) rfl dX9_laysEarth_8 ?_
  refine z_callv0 (wc := [(o, .inr (8, [.ref m0, .ref m1, .ref m2, .ref m3, .ref m4, .ref m5, .ref m6, .ref m7, .ref m8, .ref m9, .ref m10, .ref m11, .ref m12, .long z13, .long z14, .int z15, .int z16, .int z17, .ref m18, .ref m19, .int z20, .ref m21, .ref m22, .ref m23, .ref m24, .ref m25, .int z26, .int z27, .int z28, .int z29, .int z30, .ref m31, .ref m32, .ref m33, .ref m34, .ref m35, .ref m36, .ref m37, .long z38, .ref m39, .ref m40, .int z41, .ref m42])), (qa, zaJ k 4 fu), (m4, zaJ k 9 f4), (m5, zaJ k 3 f5)]) (wr := []) (va_runV (As := [.ref qa, .long z13, .long 0, .long z14]) (rest := []) ⟨hx, hb, hml, hown, hts⟩ (c_X9_laysBody l D k s.heap.size o m0 m1 m2 m3 m4 m5 m6 m7 m8 m9 m10 m11 m12 m18 m19 m21 m22 m23 m24 m25 m31 m32 m33 m34 m35 m36 m37 m39 m40 m42 z13 z14 z38 z15 z16 z17 z20 z26 z27 z28 z29 z30 z41 qa fu f4 f5 z13 0 z14) (cwV 4 hts gX9_laysEarth_X9_laysBody rfl rfl rfl (by decide +kernel) ⟨Nat.le_of_ble_eq_true rfl, Nat.le_of_ble_eq_true rfl⟩) (z_preV (wc := [(o, .inr (8, [.ref m0, .ref m1, .ref m2, .ref m3, .ref m4, .ref m5, .ref m6, .ref m7, .ref m8, .ref m9, .ref m10, .ref m11, .ref m12, .long z13, .long z14, .int z15, .int z16, .int z17, .ref m18, .ref m19, .int z20, .ref m21, .ref m22, .ref m23, .ref m24, .ref m25, .int z26, .int z27, .int z28, .int z29, .int z30, .ref m31, .ref m32, .ref m33, .ref m34, .ref m35, .ref m36, .ref m37, .long z38, .ref m39, .ref m40, .int z41, .ref m42])), (qa, zaJ k 4 fu), (m4, zaJ k 9 f4), (m5, zaJ k 3 f5)]) 0 8 hP hD hK [0, 1, 2, 3] rfl rfl rfl rfl zb0 zp0) rfl rfl hl.1 rfl (lv_room (Nat.le_of_ble_eq_true rfl)) dX9_laysEarth_11 ⟨Nat.zero_le _, Nat.zero_le _⟩) hP hD hS hA [0, 1, 2, 3] [] rfl rfl rfl (by decide) (fun w H locs hF hP hD hS => ?_)
  subst hF
  have hP : va_P D vwCl [(o, .inr (8, [.ref m0, .ref m1, .ref m2, .ref m3, .ref m4, .ref m5, .ref m6, .ref m7, .ref m8, .ref m9, .ref m10, .ref m11, .ref m12, .long z13, .long z14, .int z15, .int z16, .int z17, .ref m18, .ref m19, .int z20, .ref m21, .ref m22, .ref m23, .ref m24, .ref m25, .int z26, .int z27, .int z28, .int z29, .int z30, .ref m31, .ref m32, .ref m33, .ref m34, .ref m35, .ref m36, .ref m37, .long z38, .ref m39, .ref m40, .int z41, .ref m42])), (qa, zaJ k 4 fu), (m4, zaJ k 9 (mat9 fu)), (m5, zaJ k 3 (bodyq fu z13 0 z14))] H := hP
  have hD : va_D A [(o, .inr (8, [.ref m0, .ref m1, .ref m2, .ref m3, .ref m4, .ref m5, .ref m6, .ref m7, .ref m8, .ref m9, .ref m10, .ref m11, .ref m12, .long z13, .long z14, .int z15, .int z16, .int z17, .ref m18, .ref m19, .int z20, .ref m21, .ref m22, .ref m23, .ref m24, .ref m25, .int z26, .int z27, .int z28, .int z29, .int z30, .ref m31, .ref m32, .ref m33, .ref m34, .ref m35, .ref m36, .ref m37, .long z38, .ref m39, .ref m40, .int z41, .ref m42])), (qa, zaJ k 4 fu), (m4, zaJ k 9 (mat9 fu)), (m5, zaJ k 3 (bodyq fu z13 0 z14))] := hD
  have hP9 := hP.sub (ws' := [(o, .inr (8, [.ref m0, .ref m1, .ref m2, .ref m3, .ref m4, .ref m5, .ref m6, .ref m7, .ref m8, .ref m9, .ref m10, .ref m11, .ref m12, .long z13, .long z14, .int z15, .int z16, .int z17, .ref m18, .ref m19, .int z20, .ref m21, .ref m22, .ref m23, .ref m24, .ref m25, .int z26, .int z27, .int z28, .int z29, .int z30, .ref m31, .ref m32, .ref m33, .ref m34, .ref m35, .ref m36, .ref m37, .long z38, .ref m39, .ref m40, .int z41, .ref m42])), (qa, zaJ k 4 fu), (m4, zaJ k 9 (mat9 fu)), (m5, zaJ k 3 (bodyq fu z13 0 z14))]) [0, 1, 2, 3] rfl
  have hD9 := hD.sub (ws' := [(o, .inr (8, [.ref m0, .ref m1, .ref m2, .ref m3, .ref m4, .ref m5, .ref m6, .ref m7, .ref m8, .ref m9, .ref m10, .ref m11, .ref m12, .long z13, .long z14, .int z15, .int z16, .int z17, .ref m18, .ref m19, .int z20, .ref m21, .ref m22, .ref m23, .ref m24, .ref m25, .int z26, .int z27, .int z28, .int z29, .int z30, .ref m31, .ref m32, .ref m33, .ref m34, .ref m35, .ref m36, .ref m37, .long z38, .ref m39, .ref m40, .int z41, .ref m42])), (qa, zaJ k 4 fu), (m4, zaJ k 9 (mat9 fu)), (m5, zaJ k 3 (bodyq fu z13 0 z14))]) [0, 1, 2, 3] (by decide) rfl
  exact W.vret hx hb hr (fun t9 ht9 hW9 => ⟨⟨[(o, .inr (8, [.ref m0, .ref m1, .ref m2, .ref m3, .ref m4, .ref m5, .ref m6, .ref m7, .ref m8, .ref m9, .ref m10, .ref m11, .ref m12, .long z13, .long z14, .int z15, .int z16, .int z17, .ref m18, .ref m19, .int z20, .ref m21, .ref m22, .ref m23, .ref m24, .ref m25, .int z26, .int z27, .int z28, .int z29, .int z30, .ref m31, .ref m32, .ref m33, .ref m34, .ref m35, .ref m36, .ref m37, .long z38, .ref m39, .ref m40, .int z41, .ref m42])), (qa, zaJ k 4 fu), (m4, zaJ k 9 (mat9 fu)), (m5, zaJ k 3 (bodyq fu z13 0 z14))], rfl, rfl, by rw [ht9]; exact hP9, hD9⟩, hS.F ht9⟩) hS.2.2 dX9_laysEarth_14
set_option maxHeartbeats 4000000 in
set_option maxRecDepth 100000 in
theorem c_X9_laysUp (l : Launch) (D : va_G) (k : Nat → ClassId) (sz : Nat) (o m0 m1 m2 m3 m4 m5 m6 m7 m8 m9 m10 m11 m12 m18 m19 m21 m22 m23 m24 m25 m31 m32 m33 m34 m35 m36 m37 m39 m40 m42 : Nat) (z13 z14 z38 : Int64) (z15 z16 z17 z20 z26 z27 z28 z29 z30 z41 : Int32) (qa : Nat) (fu f4 f5 : Nat → Int64) : Met l yX9_laysUp wsX9_laysUp ({ frames := 2, cells := 0, slots := 0, locals := 57 } : Room) (va_Pc [.ref o, .ref qa] (zPre D k [(o, .inr (8, [.ref m0, .ref m1, .ref m2, .ref m3, .ref m4, .ref m5, .ref m6, .ref m7, .ref m8, .ref m9, .ref m10, .ref m11, .ref m12, .long z13, .long z14, .int z15, .int z16, .int z17, .ref m18, .ref m19, .int z20, .ref m21, .ref m22, .ref m23, .ref m24, .ref m25, .int z26, .int z27, .int z28, .int z29, .int z30, .ref m31, .ref m32, .ref m33, .ref m34, .ref m35, .ref m36, .ref m37, .long z38, .ref m39, .ref m40, .int z41, .ref m42])), (qa, zaJ k 4 fu), (m4, zaJ k 9 f4), (m5, zaJ k 3 f5)] sz zX0)) (zQv D [(o, .inr (8, [.ref m0, .ref m1, .ref m2, .ref m3, .ref m4, .ref m5, .ref m6, .ref m7, .ref m8, .ref m9, .ref m10, .ref m11, .ref m12, .long z13, .long z14, .int z15, .int z16, .int z17, .ref m18, .ref m19, .int z20, .ref m21, .ref m22, .ref m23, .ref m24, .ref m25, .int z26, .int z27, .int z28, .int z29, .int z30, .ref m31, .ref m32, .ref m33, .ref m34, .ref m35, .ref m36, .ref m37, .long z38, .ref m39, .ref m40, .int z41, .ref m42])), (qa, zaJ k 4 fu), (m4, zaJ k 9 f4), (m5, zaJ k 3 f5)] sz (fun w : va_W => w = [(o, .inr (8, [.ref m0, .ref m1, .ref m2, .ref m3, .ref m4, .ref m5, .ref m6, .ref m7, .ref m8, .ref m9, .ref m10, .ref m11, .ref m12, .long z13, .long z14, .int z15, .int z16, .int z17, .ref m18, .ref m19, .int z20, .ref m21, .ref m22, .ref m23, .ref m24, .ref m25, .int z26, .int z27, .int z28, .int z29, .int z30, .ref m31, .ref m32, .ref m33, .ref m34, .ref m35, .ref m36, .ref m37, .long z38, .ref m39, .ref m40, .int z41, .ref m42])), (qa, zaJ k 4 fu), (m4, zaJ k 9 (mat9 fu)), (m5, zaJ k 3 (upb fu))])) 0 0 (va_A [(o, .inr (8, [.ref m0, .ref m1, .ref m2, .ref m3, .ref m4, .ref m5, .ref m6, .ref m7, .ref m8, .ref m9, .ref m10, .ref m11, .ref m12, .long z13, .long z14, .int z15, .int z16, .int z17, .ref m18, .ref m19, .int z20, .ref m21, .ref m22, .ref m23, .ref m24, .ref m25, .int z26, .int z27, .int z28, .int z29, .int z30, .ref m31, .ref m32, .ref m33, .ref m34, .ref m35, .ref m36, .ref m37, .long z38, .ref m39, .ref m40, .int z41, .ref m42])), (qa, zaJ k 4 fu), (m4, zaJ k 9 f4), (m5, zaJ k 3 f5)] sz) := by
  refine Met.ofW (cc := cX9_laysUp) (maxL := 2) (ret := none) (by decide) rfl ?_
  intro p e s m args below meth c s₁ B hml hv
  obtain ⟨rfl, hsz, hP, hK, hD0, hE⟩ := hv
  have hx := B.exec
  have hb := B.bytes
  have hr := B.returns
  have hts := atoms_spec (ws := wsX9_laysUp) B.pre
  have hown : s.vm.findClass RX9 = some m.cls := findClass_of_methodNamed B.named
  have hlocks := B.notSynchronized
  subst hsz
  have hD := hD0.self (sz := s.heap.size)
  delta zQv zB
  generalize hAe : va_A [(o, .inr (8, [.ref m0, .ref m1, .ref m2, .ref m3, .ref m4, .ref m5, .ref m6, .ref m7, .ref m8, .ref m9, .ref m10, .ref m11, .ref m12, .long z13, .long z14, .int z15, .int z16, .int z17, .ref m18, .ref m19, .int z20, .ref m21, .ref m22, .ref m23, .ref m24, .ref m25, .int z26, .int z27, .int z28, .int z29, .int z30, .ref m31, .ref m32, .ref m33, .ref m34, .ref m35, .ref m36, .ref m37, .long z38, .ref m39, .ref m40, .int z41, .ref m42])), (qa, zaJ k 4 fu), (m4, zaJ k 9 f4), (m5, zaJ k 3 f5)] s.heap.size = A at hD hE ⊢
  have hA : ∀ q : Nat, s.heap.size ≤ q → A q := fun q h => by rw [← hAe]; exact Or.inr h
  have hS : va_S A s.heap s.heap [] := va_S.rf
  have hl := lv_entry [.ref o, .ref qa] (n := 2) (Nat.le_of_ble_eq_true rfl)
  rw [lg_entry_eq]
  generalize (lg_sl [.ref o, .ref qa] ++ List.replicate (2 - (lg_sl [.ref o, .ref qa]).length) Slot.unset).toArray = ls at hl ⊢
  have hl : lv_has ls 2 [(0, .ref o), (1, .ref qa)] := hl
  have hl130 : (Cond.constantLong RX9 130 (-268435456)).before #[Value.ref o, Value.ref qa] s = true := zw hts 1 rfl
  refine lv_aload_n hx hb dX9_laysUp_0 rfl (lv_at hl 0 rfl) ?_
  refine lv_aload_n hx hb dX9_laysUp_1 rfl (lv_at hl 1 rfl) ?_
  refine lv_lconst (v := 0) hx hb dX9_laysUp_2 (by decide) ?_
  refine lv_lconst (v := 0) hx hb dX9_laysUp_3 (by decide) ?_
  refine lv_ldc2 hx hb hown hl130 dX9_laysUp_4 ?_
  refine z_callv0 (wc := [(o, .inr (8, [.ref m0, .ref m1, .ref m2, .ref m3, .ref m4, .ref m5, .ref m6, .ref m7, .ref m8, .ref m9, .ref m10, .ref m11, .ref m12, .long z13, .long z14, .int z15, .int z16, .int z17, .ref m18, .ref m19, .int z20, .ref m21, .ref m22, .ref m23, .ref m24, .ref m25, .int z26, .int z27, .int z28, .int z29, .int z30, .ref m31, .ref m32, .ref m33, .ref m34, .ref m35, .ref m36, .ref m37, .long z38, .ref m39, .ref m40, .int z41, .ref m42])), (qa, zaJ k 4 fu), (m4, zaJ k 9 f4), (m5, zaJ k 3 f5)]) (wr := []) (va_runV (As := [.ref qa, .long 0, .long 0, .long (-268435456)]) (rest := []) ⟨hx, hb, hml, hown, hts⟩ (c_X9_laysBody l D k s.heap.size o m0 m1 m2 m3 m4 m5 m6 m7 m8 m9 m10 m11 m12 m18 m19 m21 m22 m23 m24 m25 m31 m32 m33 m34 m35 m36 m37 m39 m40 m42 z13 z14 z38 z15 z16 z17 z20 z26 z27 z28 z29 z30 z41 qa fu f4 f5 0 0 (-268435456)) (cwV 4 hts gX9_laysUp_X9_laysBody rfl rfl rfl (by decide +kernel) ⟨Nat.le_of_ble_eq_true rfl, Nat.le_of_ble_eq_true rfl⟩) (z_preV (wc := [(o, .inr (8, [.ref m0, .ref m1, .ref m2, .ref m3, .ref m4, .ref m5, .ref m6, .ref m7, .ref m8, .ref m9, .ref m10, .ref m11, .ref m12, .long z13, .long z14, .int z15, .int z16, .int z17, .ref m18, .ref m19, .int z20, .ref m21, .ref m22, .ref m23, .ref m24, .ref m25, .int z26, .int z27, .int z28, .int z29, .int z30, .ref m31, .ref m32, .ref m33, .ref m34, .ref m35, .ref m36, .ref m37, .long z38, .ref m39, .ref m40, .int z41, .ref m42])), (qa, zaJ k 4 fu), (m4, zaJ k 9 f4), (m5, zaJ k 3 f5)]) 0 8 hP hD hK [0, 1, 2, 3] rfl rfl rfl rfl zb0 zp0) rfl rfl hl.1 rfl (lv_room (Nat.le_of_ble_eq_true rfl)) dX9_laysUp_7 ⟨Nat.zero_le _, Nat.zero_le _⟩) hP hD hS hA [0, 1, 2, 3] [] rfl rfl rfl (by decide) (fun w H locs hF hP hD hS => ?_)
  subst hF
  have hP : va_P D vwCl [(o, .inr (8, [.ref m0, .ref m1, .ref m2, .ref m3, .ref m4, .ref m5, .ref m6, .ref m7, .ref m8, .ref m9, .ref m10, .ref m11, .ref m12, .long z13, .long z14, .int z15, .int z16, .int z17, .ref m18, .ref m19, .int z20, .ref m21, .ref m22, .ref m23, .ref m24, .ref m25, .int z26, .int z27, .int z28, .int z29, .int z30, .ref m31, .ref m32, .ref m33, .ref m34, .ref m35, .ref m36, .ref m37, .long z38, .ref m39, .ref m40, .int z41, .ref m42])), (qa, zaJ k 4 fu), (m4, zaJ k 9 (mat9 fu)), (m5, zaJ k 3 (bodyq fu 0 0 (-268435456)))] H := hP
  have hD : va_D A [(o, .inr (8, [.ref m0, .ref m1, .ref m2, .ref m3, .ref m4, .ref m5, .ref m6, .ref m7, .ref m8, .ref m9, .ref m10, .ref m11, .ref m12, .long z13, .long z14, .int z15, .int z16, .int z17, .ref m18, .ref m19, .int z20, .ref m21, .ref m22, .ref m23, .ref m24, .ref m25, .int z26, .int z27, .int z28, .int z29, .int z30, .ref m31, .ref m32, .ref m33, .ref m34, .ref m35, .ref m36, .ref m37, .long z38, .ref m39, .ref m40, .int z41, .ref m42])), (qa, zaJ k 4 fu), (m4, zaJ k 9 (mat9 fu)), (m5, zaJ k 3 (bodyq fu 0 0 (-268435456)))] := hD
  have hP := z_congJ hP 3 rfl (g := upb fu) (zall3 (by rfl) (by rfl) (by rfl)) (ws' := [(o, .inr (8, [.ref m0, .ref m1, .ref m2, .ref m3, .ref m4, .ref m5, .ref m6, .ref m7, .ref m8, .ref m9, .ref m10, .ref m11, .ref m12, .long z13, .long z14, .int z15, .int z16, .int z17, .ref m18, .ref m19, .int z20, .ref m21, .ref m22, .ref m23, .ref m24, .ref m25, .int z26, .int z27, .int z28, .int z29, .int z30, .ref m31, .ref m32, .ref m33, .ref m34, .ref m35, .ref m36, .ref m37, .long z38, .ref m39, .ref m40, .int z41, .ref m42])), (qa, zaJ k 4 fu), (m4, zaJ k 9 (mat9 fu)), (m5, zaJ k 3 (upb fu))]) rfl
  have hD := z_congDJ hD 3 rfl (g := upb fu) (ws' := [(o, .inr (8, [.ref m0, .ref m1, .ref m2, .ref m3, .ref m4, .ref m5, .ref m6, .ref m7, .ref m8, .ref m9, .ref m10, .ref m11, .ref m12, .long z13, .long z14, .int z15, .int z16, .int z17, .ref m18, .ref m19, .int z20, .ref m21, .ref m22, .ref m23, .ref m24, .ref m25, .int z26, .int z27, .int z28, .int z29, .int z30, .ref m31, .ref m32, .ref m33, .ref m34, .ref m35, .ref m36, .ref m37, .long z38, .ref m39, .ref m40, .int z41, .ref m42])), (qa, zaJ k 4 fu), (m4, zaJ k 9 (mat9 fu)), (m5, zaJ k 3 (upb fu))]) rfl
  have hP9 := hP.sub (ws' := [(o, .inr (8, [.ref m0, .ref m1, .ref m2, .ref m3, .ref m4, .ref m5, .ref m6, .ref m7, .ref m8, .ref m9, .ref m10, .ref m11, .ref m12, .long z13, .long z14, .int z15, .int z16, .int z17, .ref m18, .ref m19, .int z20, .ref m21, .ref m22, .ref m23, .ref m24, .ref m25, .int z26, .int z27, .int z28, .int z29, .int z30, .ref m31, .ref m32, .ref m33, .ref m34, .ref m35, .ref m36, .ref m37, .long z38, .ref m39, .ref m40, .int z41, .ref m42])), (qa, zaJ k 4 fu), (m4, zaJ k 9 (mat9 fu)), (m5, zaJ k 3 (upb fu))]) [0, 1, 2, 3] rfl
  have hD9 := hD.sub (ws' := [(o, .inr (8, [.ref m0, .ref m1, .ref m2, .ref m3, .ref m4, .ref m5, .ref m6, .ref m7, .ref m8, .ref m9, .ref m10, .ref m11, .ref m12, .long z13, .long z14, .int z15, .int z16, .int z17, .ref m18, .ref m19, .int z20, .ref m21, .ref m22, .ref m23, .ref m24, .ref m25, .int z26, .int z27, .int z28, .int z29, .int z30, .ref m31, .ref m32, .ref m33, .ref m34, .ref m35, .ref m36, .ref m37, .long z38, .ref m39, .ref m40, .int z41, .ref m42])), (qa, zaJ k 4 fu), (m4, zaJ k 9 (mat9 fu)), (m5, zaJ k 3 (upb fu))]) [0, 1, 2, 3] (by decide) rfl
  exact W.vret hx hb hr (fun t9 ht9 hW9 => ⟨⟨[(o, .inr (8, [.ref m0, .ref m1, .ref m2, .ref m3, .ref m4, .ref m5, .ref m6, .ref m7, .ref m8, .ref m9, .ref m10, .ref m11, .ref m12, .long z13, .long z14, .int z15, .int z16, .int z17, .ref m18, .ref m19, .int z20, .ref m21, .ref m22, .ref m23, .ref m24, .ref m25, .int z26, .int z27, .int z28, .int z29, .int z30, .ref m31, .ref m32, .ref m33, .ref m34, .ref m35, .ref m36, .ref m37, .long z38, .ref m39, .ref m40, .int z41, .ref m42])), (qa, zaJ k 4 fu), (m4, zaJ k 9 (mat9 fu)), (m5, zaJ k 3 (upb fu))], rfl, rfl, by rw [ht9]; exact hP9, hD9⟩, hS.F ht9⟩) hS.2.2 dX9_laysUp_10
set_option maxHeartbeats 4000000 in
set_option maxRecDepth 100000 in
theorem c_X9_laysCross (l : Launch) (D : va_G) (k : Nat → ClassId) (sz : Nat) (o m0 m1 m2 m3 m4 m5 m6 m7 m8 m9 m10 m11 m12 m18 m19 m21 m22 m23 m24 m25 m31 m32 m33 m34 m35 m36 m37 m39 m40 m42 : Nat) (z13 z14 z38 : Int64) (z15 z16 z17 z20 z26 z27 z28 z29 z30 z41 : Int32) (pa qa : Nat) (fu fv f6 : Nat → Int64) : Met l yX9_laysCross wsX9_laysCross ({ frames := 0, cells := 0, slots := 0, locals := 0 } : Room) (va_Pc [.ref o, .ref pa, .ref qa] (zPre D k [(o, .inr (8, [.ref m0, .ref m1, .ref m2, .ref m3, .ref m4, .ref m5, .ref m6, .ref m7, .ref m8, .ref m9, .ref m10, .ref m11, .ref m12, .long z13, .long z14, .int z15, .int z16, .int z17, .ref m18, .ref m19, .int z20, .ref m21, .ref m22, .ref m23, .ref m24, .ref m25, .int z26, .int z27, .int z28, .int z29, .int z30, .ref m31, .ref m32, .ref m33, .ref m34, .ref m35, .ref m36, .ref m37, .long z38, .ref m39, .ref m40, .int z41, .ref m42])), (pa, zaJ k 3 fu), (qa, zaJ k 3 fv), (m6, zaJ k 3 f6)] sz zX0)) (zQv D [(o, .inr (8, [.ref m0, .ref m1, .ref m2, .ref m3, .ref m4, .ref m5, .ref m6, .ref m7, .ref m8, .ref m9, .ref m10, .ref m11, .ref m12, .long z13, .long z14, .int z15, .int z16, .int z17, .ref m18, .ref m19, .int z20, .ref m21, .ref m22, .ref m23, .ref m24, .ref m25, .int z26, .int z27, .int z28, .int z29, .int z30, .ref m31, .ref m32, .ref m33, .ref m34, .ref m35, .ref m36, .ref m37, .long z38, .ref m39, .ref m40, .int z41, .ref m42])), (pa, zaJ k 3 fu), (qa, zaJ k 3 fv), (m6, zaJ k 3 f6)] sz (fun w : va_W => w = [(o, .inr (8, [.ref m0, .ref m1, .ref m2, .ref m3, .ref m4, .ref m5, .ref m6, .ref m7, .ref m8, .ref m9, .ref m10, .ref m11, .ref m12, .long z13, .long z14, .int z15, .int z16, .int z17, .ref m18, .ref m19, .int z20, .ref m21, .ref m22, .ref m23, .ref m24, .ref m25, .int z26, .int z27, .int z28, .int z29, .int z30, .ref m31, .ref m32, .ref m33, .ref m34, .ref m35, .ref m36, .ref m37, .long z38, .ref m39, .ref m40, .int z41, .ref m42])), (pa, zaJ k 3 fu), (qa, zaJ k 3 fv), (m6, zaJ k 3 (crs fu fv))])) 0 0 (va_A [(o, .inr (8, [.ref m0, .ref m1, .ref m2, .ref m3, .ref m4, .ref m5, .ref m6, .ref m7, .ref m8, .ref m9, .ref m10, .ref m11, .ref m12, .long z13, .long z14, .int z15, .int z16, .int z17, .ref m18, .ref m19, .int z20, .ref m21, .ref m22, .ref m23, .ref m24, .ref m25, .int z26, .int z27, .int z28, .int z29, .int z30, .ref m31, .ref m32, .ref m33, .ref m34, .ref m35, .ref m36, .ref m37, .long z38, .ref m39, .ref m40, .int z41, .ref m42])), (pa, zaJ k 3 fu), (qa, zaJ k 3 fv), (m6, zaJ k 3 f6)] sz) := by
  refine Met.ofW (cc := cX9_laysCross) (maxL := 3) (ret := none) (by decide) rfl ?_
  intro p e s m args below meth c s₁ B hml hv
  obtain ⟨rfl, hsz, hP, hK, hD0, hE⟩ := hv
  have hx := B.exec
  have hb := B.bytes
  have hr := B.returns
  have hts := atoms_spec (ws := wsX9_laysCross) B.pre
  have hown : s.vm.findClass RX9 = some m.cls := findClass_of_methodNamed B.named
  have hlocks := B.notSynchronized
  subst hsz
  have hD := hD0.self (sz := s.heap.size)
  delta zQv zB
  generalize hAe : va_A [(o, .inr (8, [.ref m0, .ref m1, .ref m2, .ref m3, .ref m4, .ref m5, .ref m6, .ref m7, .ref m8, .ref m9, .ref m10, .ref m11, .ref m12, .long z13, .long z14, .int z15, .int z16, .int z17, .ref m18, .ref m19, .int z20, .ref m21, .ref m22, .ref m23, .ref m24, .ref m25, .int z26, .int z27, .int z28, .int z29, .int z30, .ref m31, .ref m32, .ref m33, .ref m34, .ref m35, .ref m36, .ref m37, .long z38, .ref m39, .ref m40, .int z41, .ref m42])), (pa, zaJ k 3 fu), (qa, zaJ k 3 fv), (m6, zaJ k 3 f6)] s.heap.size = A at hD hE ⊢
  have hA : ∀ q : Nat, s.heap.size ≤ q → A q := fun q h => by rw [← hAe]; exact Or.inr h
  have hS : va_S A s.heap s.heap [] := va_S.rf
  have hl := lv_entry [.ref o, .ref pa, .ref qa] (n := 3) (Nat.le_of_ble_eq_true rfl)
  rw [lg_entry_eq]
  generalize (lg_sl [.ref o, .ref pa, .ref qa] ++ List.replicate (3 - (lg_sl [.ref o, .ref pa, .ref qa]).length) Slot.unset).toArray = ls at hl ⊢
  have hl : lv_has ls 3 [(0, .ref o), (1, .ref pa), (2, .ref qa)] := hl
  have hl28 : (Cond.fieldLink RX9 28 "InertialReferenceModel" "cross" "[J").before #[Value.ref o, Value.ref pa, Value.ref qa] s = true := zw hts 1 rfl
  have hinX9 : ∀ w ∈ u_ws RX9 TX9 43, w ∈ wsX9_laysCross := fun w h => List.mem_cons_of_mem _ (List.mem_append_right _ h)
  refine lv_aload_n hx hb dX9_laysCross_0 rfl (lv_at hl 0 rfl) ?_
  refine va_get (D := D) (ci := 8) (v := .ref m6) (C := RX9) (T := TX9) (N := 43) hx hb hts hinX9 hown hK hP 0 rfl rfl 6 (Nat.le_of_ble_eq_true rfl) hl28 (fun _ h9 => h9) rfl dX9_laysCross_1 ?_
  refine lv_iconst (v := 0) hx hb dX9_laysCross_4 (by decide) ?_
  refine lv_aload_n hx hb dX9_laysCross_5 rfl (lv_at hl 1 rfl) ?_
  refine lv_iconst (v := 1) hx hb dX9_laysCross_6 (by decide) ?_
  refine z_lald hx hb hK hP 1 rfl 1 zx1 (by decide) (v := fu 1) rfl dX9_laysCross_7 ?_
  refine lv_aload_n hx hb dX9_laysCross_8 rfl (lv_at hl 2 rfl) ?_
  refine lv_iconst (v := 2) hx hb dX9_laysCross_9 (by decide) ?_
  refine z_lald hx hb hK hP 2 rfl 2 zx2 (by decide) (v := fv 2) rfl dX9_laysCross_10 ?_
  refine lv_lmul hx hb dX9_laysCross_11 ?_
  refine lv_aload_n hx hb dX9_laysCross_12 rfl (lv_at hl 1 rfl) ?_
  refine lv_iconst (v := 2) hx hb dX9_laysCross_13 (by decide) ?_
  refine z_lald hx hb hK hP 1 rfl 2 zx2 (by decide) (v := fu 2) rfl dX9_laysCross_14 ?_
  refine lv_aload_n hx hb dX9_laysCross_15 rfl (lv_at hl 2 rfl) ?_
  refine lv_iconst (v := 1) hx hb dX9_laysCross_16 (by decide) ?_
  refine z_lald hx hb hK hP 2 rfl 1 zx1 (by decide) (v := fv 1) rfl dX9_laysCross_17 ?_
  refine lv_lmul hx hb dX9_laysCross_18 ?_
  refine lv_lsub hx hb dX9_laysCross_19 ?_
  refine z_last hx hb hK hP hD hS 3 rfl 0 zx0 (by decide) (ws' := [(o, .inr (8, [.ref m0, .ref m1, .ref m2, .ref m3, .ref m4, .ref m5, .ref m6, .ref m7, .ref m8, .ref m9, .ref m10, .ref m11, .ref m12, .long z13, .long z14, .int z15, .int z16, .int z17, .ref m18, .ref m19, .int z20, .ref m21, .ref m22, .ref m23, .ref m24, .ref m25, .int z26, .int z27, .int z28, .int z29, .int z30, .ref m31, .ref m32, .ref m33, .ref m34, .ref m35, .ref m36, .ref m37, .long z38, .ref m39, .ref m40, .int z41, .ref m42])), (pa, zaJ k 3 fu), (qa, zaJ k 3 fv), (m6, zaJ k 3 (vp_updL f6 0 (((fu 1) * (fv 2)) - ((fu 2) * (fv 1)))))]) rfl dX9_laysCross_20 (fun H locs hP hD hS => ?_)
  refine lv_aload_n hx hb dX9_laysCross_21 rfl (lv_at hl 0 rfl) ?_
  refine va_get (D := D) (ci := 8) (v := .ref m6) (C := RX9) (T := TX9) (N := 43) hx hb hts hinX9 hown hK hP 0 rfl rfl 6 (Nat.le_of_ble_eq_true rfl) hl28 (fun _ h9 => h9) rfl dX9_laysCross_22 ?_
  refine lv_iconst (v := 1) hx hb dX9_laysCross_25 (by decide) ?_
  refine lv_aload_n hx hb dX9_laysCross_26 rfl (lv_at hl 1 rfl) ?_
  refine lv_iconst (v := 2) hx hb dX9_laysCross_27 (by decide) ?_
  refine z_lald hx hb hK hP 1 rfl 2 zx2 (by decide) (v := fu 2) rfl dX9_laysCross_28 ?_
  refine lv_aload_n hx hb dX9_laysCross_29 rfl (lv_at hl 2 rfl) ?_
  refine lv_iconst (v := 0) hx hb dX9_laysCross_30 (by decide) ?_
  refine z_lald hx hb hK hP 2 rfl 0 zx0 (by decide) (v := fv 0) rfl dX9_laysCross_31 ?_
  refine lv_lmul hx hb dX9_laysCross_32 ?_
  refine lv_aload_n hx hb dX9_laysCross_33 rfl (lv_at hl 1 rfl) ?_
  refine lv_iconst (v := 0) hx hb dX9_laysCross_34 (by decide) ?_
  refine z_lald hx hb hK hP 1 rfl 0 zx0 (by decide) (v := fu 0) rfl dX9_laysCross_35 ?_
  refine lv_aload_n hx hb dX9_laysCross_36 rfl (lv_at hl 2 rfl) ?_
  refine lv_iconst (v := 2) hx hb dX9_laysCross_37 (by decide) ?_
  refine z_lald hx hb hK hP 2 rfl 2 zx2 (by decide) (v := fv 2) rfl dX9_laysCross_38 ?_
  refine lv_lmul hx hb dX9_laysCross_39 ?_
  refine lv_lsub hx hb dX9_laysCross_40 ?_
  refine z_last hx hb hK hP hD hS 3 rfl 1 zx1 (by decide) (ws' := [(o, .inr (8, [.ref m0, .ref m1, .ref m2, .ref m3, .ref m4, .ref m5, .ref m6, .ref m7, .ref m8, .ref m9, .ref m10, .ref m11, .ref m12, .long z13, .long z14, .int z15, .int z16, .int z17, .ref m18, .ref m19, .int z20, .ref m21, .ref m22, .ref m23, .ref m24, .ref m25, .int z26, .int z27, .int z28, .int z29, .int z30, .ref m31, .ref m32, .ref m33, .ref m34, .ref m35, .ref m36, .ref m37, .long z38, .ref m39, .ref m40, .int z41, .ref m42])), (pa, zaJ k 3 fu), (qa, zaJ k 3 fv), (m6, zaJ k 3 (vp_updL (vp_updL f6 0 (((fu 1) * (fv 2)) - ((fu 2) * (fv 1)))) 1 (((fu 2) * (fv 0)) - ((fu 0) * (fv 2)))))]) rfl dX9_laysCross_41 (fun H locs hP hD hS => ?_)
  refine lv_aload_n hx hb dX9_laysCross_42 rfl (lv_at hl 0 rfl) ?_
  refine va_get (D := D) (ci := 8) (v := .ref m6) (C := RX9) (T := TX9) (N := 43) hx hb hts hinX9 hown hK hP 0 rfl rfl 6 (Nat.le_of_ble_eq_true rfl) hl28 (fun _ h9 => h9) rfl dX9_laysCross_43 ?_
  refine lv_iconst (v := 2) hx hb dX9_laysCross_46 (by decide) ?_
  refine lv_aload_n hx hb dX9_laysCross_47 rfl (lv_at hl 1 rfl) ?_
  refine lv_iconst (v := 0) hx hb dX9_laysCross_48 (by decide) ?_
  refine z_lald hx hb hK hP 1 rfl 0 zx0 (by decide) (v := fu 0) rfl dX9_laysCross_49 ?_
  refine lv_aload_n hx hb dX9_laysCross_50 rfl (lv_at hl 2 rfl) ?_
  refine lv_iconst (v := 1) hx hb dX9_laysCross_51 (by decide) ?_
  refine z_lald hx hb hK hP 2 rfl 1 zx1 (by decide) (v := fv 1) rfl dX9_laysCross_52 ?_
  refine lv_lmul hx hb dX9_laysCross_53 ?_
  refine lv_aload_n hx hb dX9_laysCross_54 rfl (lv_at hl 1 rfl) ?_
  refine lv_iconst (v := 1) hx hb dX9_laysCross_55 (by decide) ?_
  refine z_lald hx hb hK hP 1 rfl 1 zx1 (by decide) (v := fu 1) rfl dX9_laysCross_56 ?_
  refine lv_aload_n hx hb dX9_laysCross_57 rfl (lv_at hl 2 rfl) ?_
  refine lv_iconst (v := 0) hx hb dX9_laysCross_58 (by decide) ?_
  refine z_lald hx hb hK hP 2 rfl 0 zx0 (by decide) (v := fv 0) rfl dX9_laysCross_59 ?_
  refine lv_lmul hx hb dX9_laysCross_60 ?_
  refine lv_lsub hx hb dX9_laysCross_61 ?_
  refine z_last hx hb hK hP hD hS 3 rfl 2 zx2 (by decide) (ws' := [(o, .inr (8, [.ref m0, .ref m1, .ref m2, .ref m3, .ref m4, .ref m5, .ref m6, .ref m7, .ref m8, .ref m9, .ref m10, .ref m11, .ref m12, .long z13, .long z14, .int z15, .int z16, .int z17, .ref m18, .ref m19, .int z20, .ref m21, .ref m22, .ref m23, .ref m24, .ref m25, .int z26, .int z27, .int z28, .int z29, .int z30, .ref m31, .ref m32, .ref m33, .ref m34, .ref m35, .ref m36, .ref m37, .long z38, .ref m39, .ref m40, .int z41, .ref m42])), (pa, zaJ k 3 fu), (qa, zaJ k 3 fv), (m6, zaJ k 3 (vp_updL (vp_updL (vp_updL f6 0 (((fu 1) * (fv 2)) - ((fu 2) * (fv 1)))) 1 (((fu 2) * (fv 0)) - ((fu 0) * (fv 2)))) 2 (((fu 0) * (fv 1)) - ((fu 1) * (fv 0)))))]) rfl dX9_laysCross_62 (fun H locs hP hD hS => ?_)
  have hP := z_congJ hP 3 rfl (g := crs fu fv) (zall3 (by rfl) (by rfl) (by rfl)) (ws' := [(o, .inr (8, [.ref m0, .ref m1, .ref m2, .ref m3, .ref m4, .ref m5, .ref m6, .ref m7, .ref m8, .ref m9, .ref m10, .ref m11, .ref m12, .long z13, .long z14, .int z15, .int z16, .int z17, .ref m18, .ref m19, .int z20, .ref m21, .ref m22, .ref m23, .ref m24, .ref m25, .int z26, .int z27, .int z28, .int z29, .int z30, .ref m31, .ref m32, .ref m33, .ref m34, .ref m35, .ref m36, .ref m37, .long z38, .ref m39, .ref m40, .int z41, .ref m42])), (pa, zaJ k 3 fu), (qa, zaJ k 3 fv), (m6, zaJ k 3 (crs fu fv))]) rfl
  have hD := z_congDJ hD 3 rfl (g := crs fu fv) (ws' := [(o, .inr (8, [.ref m0, .ref m1, .ref m2, .ref m3, .ref m4, .ref m5, .ref m6, .ref m7, .ref m8, .ref m9, .ref m10, .ref m11, .ref m12, .long z13, .long z14, .int z15, .int z16, .int z17, .ref m18, .ref m19, .int z20, .ref m21, .ref m22, .ref m23, .ref m24, .ref m25, .int z26, .int z27, .int z28, .int z29, .int z30, .ref m31, .ref m32, .ref m33, .ref m34, .ref m35, .ref m36, .ref m37, .long z38, .ref m39, .ref m40, .int z41, .ref m42])), (pa, zaJ k 3 fu), (qa, zaJ k 3 fv), (m6, zaJ k 3 (crs fu fv))]) rfl
  have hP9 := hP.sub (ws' := [(o, .inr (8, [.ref m0, .ref m1, .ref m2, .ref m3, .ref m4, .ref m5, .ref m6, .ref m7, .ref m8, .ref m9, .ref m10, .ref m11, .ref m12, .long z13, .long z14, .int z15, .int z16, .int z17, .ref m18, .ref m19, .int z20, .ref m21, .ref m22, .ref m23, .ref m24, .ref m25, .int z26, .int z27, .int z28, .int z29, .int z30, .ref m31, .ref m32, .ref m33, .ref m34, .ref m35, .ref m36, .ref m37, .long z38, .ref m39, .ref m40, .int z41, .ref m42])), (pa, zaJ k 3 fu), (qa, zaJ k 3 fv), (m6, zaJ k 3 (crs fu fv))]) [0, 1, 2, 3] rfl
  have hD9 := hD.sub (ws' := [(o, .inr (8, [.ref m0, .ref m1, .ref m2, .ref m3, .ref m4, .ref m5, .ref m6, .ref m7, .ref m8, .ref m9, .ref m10, .ref m11, .ref m12, .long z13, .long z14, .int z15, .int z16, .int z17, .ref m18, .ref m19, .int z20, .ref m21, .ref m22, .ref m23, .ref m24, .ref m25, .int z26, .int z27, .int z28, .int z29, .int z30, .ref m31, .ref m32, .ref m33, .ref m34, .ref m35, .ref m36, .ref m37, .long z38, .ref m39, .ref m40, .int z41, .ref m42])), (pa, zaJ k 3 fu), (qa, zaJ k 3 fv), (m6, zaJ k 3 (crs fu fv))]) [0, 1, 2, 3] (by decide) rfl
  exact W.vret hx hb hr (fun t9 ht9 hW9 => ⟨⟨[(o, .inr (8, [.ref m0, .ref m1, .ref m2, .ref m3, .ref m4, .ref m5, .ref m6, .ref m7, .ref m8, .ref m9, .ref m10, .ref m11, .ref m12, .long z13, .long z14, .int z15, .int z16, .int z17, .ref m18, .ref m19, .int z20, .ref m21, .ref m22, .ref m23, .ref m24, .ref m25, .int z26, .int z27, .int z28, .int z29, .int z30, .ref m31, .ref m32, .ref m33, .ref m34, .ref m35, .ref m36, .ref m37, .long z38, .ref m39, .ref m40, .int z41, .ref m42])), (pa, zaJ k 3 fu), (qa, zaJ k 3 fv), (m6, zaJ k 3 (crs fu fv))], rfl, rfl, by rw [ht9]; exact hP9, hD9⟩, hS.F ht9⟩) hS.2.2 dX9_laysCross_63
set_option maxHeartbeats 4000000 in
set_option maxRecDepth 100000 in
theorem c_X9_turn_0 (l : Launch) (D : va_G) (k : Nat → ClassId) (sz : Nat) (o m0 m1 m2 m3 m4 m5 m6 m7 m8 m9 m10 m11 m12 m18 m19 m21 m22 m23 m24 m25 m31 m32 m33 m34 m35 m36 m37 m39 m40 m42 : Nat) (z13 z14 z38 : Int64) (z15 z16 z17 z20 z26 z27 z28 z29 z30 z41 : Int32) (qa : Nat) (fu f2 f3 : Nat → Int64) (x y z : Int64) : Met l yX9_turn wsX9_turn ({ frames := 1, cells := 0, slots := 0, locals := 25 } : Room) (va_Pc [.ref o, .ref qa, .long x, .long y, .long z, .int 0] (zPre D k [(o, .inr (8, [.ref m0, .ref m1, .ref m2, .ref m3, .ref m4, .ref m5, .ref m6, .ref m7, .ref m8, .ref m9, .ref m10, .ref m11, .ref m12, .long z13, .long z14, .int z15, .int z16, .int z17, .ref m18, .ref m19, .int z20, .ref m21, .ref m22, .ref m23, .ref m24, .ref m25, .int z26, .int z27, .int z28, .int z29, .int z30, .ref m31, .ref m32, .ref m33, .ref m34, .ref m35, .ref m36, .ref m37, .long z38, .ref m39, .ref m40, .int z41, .ref m42])), (qa, zaJ k 4 fu), (m2, zaJ k 4 f2), (m3, zaJ k 4 f3)] sz zX0)) (zQv D [(o, .inr (8, [.ref m0, .ref m1, .ref m2, .ref m3, .ref m4, .ref m5, .ref m6, .ref m7, .ref m8, .ref m9, .ref m10, .ref m11, .ref m12, .long z13, .long z14, .int z15, .int z16, .int z17, .ref m18, .ref m19, .int z20, .ref m21, .ref m22, .ref m23, .ref m24, .ref m25, .int z26, .int z27, .int z28, .int z29, .int z30, .ref m31, .ref m32, .ref m33, .ref m34, .ref m35, .ref m36, .ref m37, .long z38, .ref m39, .ref m40, .int z41, .ref m42])), (qa, zaJ k 4 fu), (m2, zaJ k 4 f2), (m3, zaJ k 4 f3)] sz (fun w : va_W => ∃ (f22 f32 : Nat → Int64), w = [(o, .inr (8, [.ref m0, .ref m1, .ref m2, .ref m3, .ref m4, .ref m5, .ref m6, .ref m7, .ref m8, .ref m9, .ref m10, .ref m11, .ref m12, .long z13, .long z14, .int z15, .int z16, .int z17, .ref m18, .ref m19, .int z20, .ref m21, .ref m22, .ref m23, .ref m24, .ref m25, .int z26, .int z27, .int z28, .int z29, .int z30, .ref m31, .ref m32, .ref m33, .ref m34, .ref m35, .ref m36, .ref m37, .long z38, .ref m39, .ref m40, .int z41, .ref m42])), (qa, zaJ k 4 (qturn fu x y z)), (m2, zaJ k 4 f22), (m3, zaJ k 4 f32)])) 0 0 (va_A [(o, .inr (8, [.ref m0, .ref m1, .ref m2, .ref m3, .ref m4, .ref m5, .ref m6, .ref m7, .ref m8, .ref m9, .ref m10, .ref m11, .ref m12, .long z13, .long z14, .int z15, .int z16, .int z17, .ref m18, .ref m19, .int z20, .ref m21, .ref m22, .ref m23, .ref m24, .ref m25, .int z26, .int z27, .int z28, .int z29, .int z30, .ref m31, .ref m32, .ref m33, .ref m34, .ref m35, .ref m36, .ref m37, .long z38, .ref m39, .ref m40, .int z41, .ref m42])), (qa, zaJ k 4 fu), (m2, zaJ k 4 f2), (m3, zaJ k 4 f3)] sz) := by
  refine Met.ofW (cc := cX9_turn) (maxL := 26) (ret := none) (by decide) rfl ?_
  intro p e s m args below meth c s₁ B hml hv
  obtain ⟨rfl, hsz, hP, hK, hD0, hE⟩ := hv
  have hx := B.exec
  have hb := B.bytes
  have hr := B.returns
  have hts := atoms_spec (ws := wsX9_turn) B.pre
  have hown : s.vm.findClass RX9 = some m.cls := findClass_of_methodNamed B.named
  have hlocks := B.notSynchronized
  subst hsz
  have hD := hD0.self (sz := s.heap.size)
  delta zQv zB
  generalize hAe : va_A [(o, .inr (8, [.ref m0, .ref m1, .ref m2, .ref m3, .ref m4, .ref m5, .ref m6, .ref m7, .ref m8, .ref m9, .ref m10, .ref m11, .ref m12, .long z13, .long z14, .int z15, .int z16, .int z17, .ref m18, .ref m19, .int z20, .ref m21, .ref m22, .ref m23, .ref m24, .ref m25, .int z26, .int z27, .int z28, .int z29, .int z30, .ref m31, .ref m32, .ref m33, .ref m34, .ref m35, .ref m36, .ref m37, .long z38, .ref m39, .ref m40, .int z41, .ref m42])), (qa, zaJ k 4 fu), (m2, zaJ k 4 f2), (m3, zaJ k 4 f3)] s.heap.size = A at hD hE ⊢
  have hA : ∀ q : Nat, s.heap.size ≤ q → A q := fun q h => by rw [← hAe]; exact Or.inr h
  have hS : va_S A s.heap s.heap [] := va_S.rf
  have hl := lv_entry [.ref o, .ref qa, .long x, .long y, .long z, .int 0] (n := 26) (Nat.le_of_ble_eq_true rfl)
  rw [lg_entry_eq]
  generalize (lg_sl [.ref o, .ref qa, .long x, .long y, .long z, .int 0] ++ List.replicate (26 - (lg_sl [.ref o, .ref qa, .long x, .long y, .long z, .int 0]).length) Slot.unset).toArray = ls at hl ⊢
  have hl : lv_has ls 26 [(0, .ref o), (1, .ref qa), (2, .long x), (4, .long y), (6, .long z), (8, .int 0)] := hl
  have hl113 : (Cond.constantLong RX9 113 (268435456)).before #[Value.ref o, Value.ref qa, Value.long x, Value.long y, Value.long z, Value.int 0] s = true := zw hts 1 rfl
  have hl132 : (Cond.constantLong RX9 132 (6)).before #[Value.ref o, Value.ref qa, Value.long x, Value.long y, Value.long z, Value.int 0] s = true := zw hts 2 rfl
  have hl16 : (Cond.fieldLink RX9 16 "InertialReferenceModel" "small" "[J").before #[Value.ref o, Value.ref qa, Value.long x, Value.long y, Value.long z, Value.int 0] s = true := zw hts 3 rfl
  have hinX9 : ∀ w ∈ u_ws RX9 TX9 43, w ∈ wsX9_turn := fun w h => List.mem_cons_of_mem _ (List.mem_append_right _ h)
  have hl19 : (Cond.fieldLink RX9 19 "InertialReferenceModel" "product" "[J").before #[Value.ref o, Value.ref qa, Value.long x, Value.long y, Value.long z, Value.int 0] s = true := zw hts 4 rfl
  refine lv_lload_n hx hb dX9_turn_0 rfl (lv_at hl 2 rfl) ?_
  refine lv_iconst (v := 1) hx hb dX9_turn_1 (by decide) ?_
  refine lv_lshr (v := sar x 1) hx hb dX9_turn_2 rfl ?_
  refine lv_lstore (lv' := [(9, .long (sar x 1)), (0, .ref o), (1, .ref qa), (2, .long x), (4, .long y), (6, .long z), (8, .int 0)]) hx hb dX9_turn_3 hl (by decide) rfl (fun ls hl => ?_)
  refine lv_lload hx hb dX9_turn_5 (lv_at hl 4 rfl) ?_
  refine lv_iconst (v := 1) hx hb dX9_turn_7 (by decide) ?_
  refine lv_lshr (v := sar y 1) hx hb dX9_turn_8 rfl ?_
  refine lv_lstore (lv' := [(11, .long (sar y 1)), (9, .long (sar x 1)), (0, .ref o), (1, .ref qa), (2, .long x), (4, .long y), (6, .long z), (8, .int 0)]) hx hb dX9_turn_9 hl (by decide) rfl (fun ls hl => ?_)
  refine lv_lload hx hb dX9_turn_11 (lv_at hl 6 rfl) ?_
  refine lv_iconst (v := 1) hx hb dX9_turn_13 (by decide) ?_
  refine lv_lshr (v := sar z 1) hx hb dX9_turn_14 rfl ?_
  refine lv_lstore (lv' := [(13, .long (sar z 1)), (11, .long (sar y 1)), (9, .long (sar x 1)), (0, .ref o), (1, .ref qa), (2, .long x), (4, .long y), (6, .long z), (8, .int 0)]) hx hb dX9_turn_15 hl (by decide) rfl (fun ls hl => ?_)
  refine lv_lload hx hb dX9_turn_17 (lv_at hl 2 rfl) ?_
  refine lv_lload hx hb dX9_turn_19 (lv_at hl 2 rfl) ?_
  refine lv_lmul hx hb dX9_turn_21 ?_
  refine lv_lload hx hb dX9_turn_22 (lv_at hl 1 rfl) ?_
  refine lv_lload hx hb dX9_turn_24 (lv_at hl 1 rfl) ?_
  refine lv_lmul hx hb dX9_turn_26 ?_
  refine lv_ladd hx hb dX9_turn_27 ?_
  refine lv_lload hx hb dX9_turn_28 (lv_at hl 0 rfl) ?_
  refine lv_lload hx hb dX9_turn_30 (lv_at hl 0 rfl) ?_
  refine lv_lmul hx hb dX9_turn_32 ?_
  refine lv_ladd hx hb dX9_turn_33 ?_
  refine lv_bipush (v := 28) hx hb dX9_turn_34 (by decide) ?_
  refine lv_lshr (v := sar ((((sar x 1) * (sar x 1)) + ((sar y 1) * (sar y 1))) + ((sar z 1) * (sar z 1))) 28) hx hb dX9_turn_36 rfl ?_
  refine lv_lstore (lv' := [(15, .long (sar ((((sar x 1) * (sar x 1)) + ((sar y 1) * (sar y 1))) + ((sar z 1) * (sar z 1))) 28)), (13, .long (sar z 1)), (11, .long (sar y 1)), (9, .long (sar x 1)), (0, .ref o), (1, .ref qa), (2, .long x), (4, .long y), (6, .long z), (8, .int 0)]) hx hb dX9_turn_37 hl (by decide) rfl (fun ls hl => ?_)
  refine lv_iload hx hb dX9_turn_39 (lv_at hl 9 rfl) ?_
  refine lv_if_eq (tgt := 50) hx hb dX9_turn_41 (by decide) (fun _ => ?_) (fun c => absurd (by decide) c)
  refine lv_ldc2 hx hb hown hl113 dX9_turn_50 ?_
  refine lv_lload hx hb dX9_turn_53 (lv_at hl 0 rfl) ?_
  refine lv_iconst (v := 1) hx hb dX9_turn_55 (by decide) ?_
  refine lv_lshr (v := sar (sar ((((sar x 1) * (sar x 1)) + ((sar y 1) * (sar y 1))) + ((sar z 1) * (sar z 1))) 28) 1) hx hb dX9_turn_56 rfl ?_
  refine lv_lsub hx hb dX9_turn_57 ?_
  refine lv_lstore (lv' := [(17, .long (268435456 - (sar (sar ((((sar x 1) * (sar x 1)) + ((sar y 1) * (sar y 1))) + ((sar z 1) * (sar z 1))) 28) 1))), (15, .long (sar ((((sar x 1) * (sar x 1)) + ((sar y 1) * (sar y 1))) + ((sar z 1) * (sar z 1))) 28)), (13, .long (sar z 1)), (11, .long (sar y 1)), (9, .long (sar x 1)), (0, .ref o), (1, .ref qa), (2, .long x), (4, .long y), (6, .long z), (8, .int 0)]) hx hb dX9_turn_58 hl (by decide) rfl (fun ls hl => ?_)
  refine lv_iload hx hb dX9_turn_60 (lv_at hl 10 rfl) ?_
  refine lv_if_eq (tgt := 71) hx hb dX9_turn_62 (by decide) (fun _ => ?_) (fun c => absurd (by decide) c)
  refine lv_ldc2 hx hb hown hl113 dX9_turn_71 ?_
  refine lv_lload hx hb dX9_turn_74 (lv_at hl 1 rfl) ?_
  refine lv_ldc2 hx hb hown hl132 dX9_turn_76 ?_
  refine z_calll0 (wc := []) (wr := [(o, .inr (8, [.ref m0, .ref m1, .ref m2, .ref m3, .ref m4, .ref m5, .ref m6, .ref m7, .ref m8, .ref m9, .ref m10, .ref m11, .ref m12, .long z13, .long z14, .int z15, .int z16, .int z17, .ref m18, .ref m19, .int z20, .ref m21, .ref m22, .ref m23, .ref m24, .ref m25, .int z26, .int z27, .int z28, .int z29, .int z30, .ref m31, .ref m32, .ref m33, .ref m34, .ref m35, .ref m36, .ref m37, .long z38, .ref m39, .ref m40, .int z41, .ref m42])), (qa, zaJ k 4 fu), (m2, zaJ k 4 f2), (m3, zaJ k 4 f3)]) (va_runS (As := [.long (sar ((((sar x 1) * (sar x 1)) + ((sar y 1) * (sar y 1))) + ((sar z 1) * (sar z 1))) 28), .long 6]) (rest := [.long 268435456]) ⟨hx, hb, hml, hown, hts⟩ (c_X9_floor l D k s.heap.size (sar ((((sar x 1) * (sar x 1)) + ((sar y 1) * (sar y 1))) + ((sar z 1) * (sar z 1))) 28) 6 (by decide)) (va_cwS 2 hts gX9_turn_X9_floor rfl rfl rfl (by decide +kernel) ⟨Nat.le_of_ble_eq_true rfl, Nat.le_of_ble_eq_true rfl⟩) (z_preS (wc := []) hP hD hK [] rfl rfl zb0 zp0) rfl rfl hl.1 rfl (lv_room (Nat.le_of_ble_eq_true rfl)) dX9_turn_79 ⟨Nat.zero_le _, Nat.zero_le _⟩) hP hD hS hA [] [0, 1, 2, 3] rfl rfl rfl (by decide) (fun w H locs hF hP hD hS => ?_)
  subst hF
  have hP : va_P D vwCl [(o, .inr (8, [.ref m0, .ref m1, .ref m2, .ref m3, .ref m4, .ref m5, .ref m6, .ref m7, .ref m8, .ref m9, .ref m10, .ref m11, .ref m12, .long z13, .long z14, .int z15, .int z16, .int z17, .ref m18, .ref m19, .int z20, .ref m21, .ref m22, .ref m23, .ref m24, .ref m25, .int z26, .int z27, .int z28, .int z29, .int z30, .ref m31, .ref m32, .ref m33, .ref m34, .ref m35, .ref m36, .ref m37, .long z38, .ref m39, .ref m40, .int z41, .ref m42])), (qa, zaJ k 4 fu), (m2, zaJ k 4 f2), (m3, zaJ k 4 f3)] H := hP
  have hD : va_D A [(o, .inr (8, [.ref m0, .ref m1, .ref m2, .ref m3, .ref m4, .ref m5, .ref m6, .ref m7, .ref m8, .ref m9, .ref m10, .ref m11, .ref m12, .long z13, .long z14, .int z15, .int z16, .int z17, .ref m18, .ref m19, .int z20, .ref m21, .ref m22, .ref m23, .ref m24, .ref m25, .int z26, .int z27, .int z28, .int z29, .int z30, .ref m31, .ref m32, .ref m33, .ref m34, .ref m35, .ref m36, .ref m37, .long z38, .ref m39, .ref m40, .int z41, .ref m42])), (qa, zaJ k 4 fu), (m2, zaJ k 4 f2), (m3, zaJ k 4 f3)] := hD
  refine lv_lsub hx hb dX9_turn_82 ?_
  refine lv_lstore (lv' := [(19, .long (268435456 - (fdiv (sar ((((sar x 1) * (sar x 1)) + ((sar y 1) * (sar y 1))) + ((sar z 1) * (sar z 1))) 28) 6))), (17, .long (268435456 - (sar (sar ((((sar x 1) * (sar x 1)) + ((sar y 1) * (sar y 1))) + ((sar z 1) * (sar z 1))) 28) 1))), (15, .long (sar ((((sar x 1) * (sar x 1)) + ((sar y 1) * (sar y 1))) + ((sar z 1) * (sar z 1))) 28)), (13, .long (sar z 1)), (11, .long (sar y 1)), (9, .long (sar x 1)), (0, .ref o), (1, .ref qa), (2, .long x), (4, .long y), (6, .long z), (8, .int 0)]) hx hb dX9_turn_83 hl (by decide) rfl (fun ls hl => ?_)
  refine lv_aload_n hx hb dX9_turn_85 rfl (lv_at hl 6 rfl) ?_
  refine va_get (D := D) (ci := 8) (v := .ref m2) (C := RX9) (T := TX9) (N := 43) hx hb hts hinX9 hown hK hP 0 rfl rfl 2 (Nat.le_of_ble_eq_true rfl) hl16 (fun _ h9 => h9) rfl dX9_turn_86 ?_
  refine lv_iconst (v := 0) hx hb dX9_turn_89 (by decide) ?_
  refine lv_lload hx hb dX9_turn_90 (lv_at hl 1 rfl) ?_
  refine z_last hx hb hK hP hD hS 2 rfl 0 zx0 (by decide) (ws' := [(o, .inr (8, [.ref m0, .ref m1, .ref m2, .ref m3, .ref m4, .ref m5, .ref m6, .ref m7, .ref m8, .ref m9, .ref m10, .ref m11, .ref m12, .long z13, .long z14, .int z15, .int z16, .int z17, .ref m18, .ref m19, .int z20, .ref m21, .ref m22, .ref m23, .ref m24, .ref m25, .int z26, .int z27, .int z28, .int z29, .int z30, .ref m31, .ref m32, .ref m33, .ref m34, .ref m35, .ref m36, .ref m37, .long z38, .ref m39, .ref m40, .int z41, .ref m42])), (qa, zaJ k 4 fu), (m2, zaJ k 4 (vp_updL f2 0 (268435456 - (sar (sar ((((sar x 1) * (sar x 1)) + ((sar y 1) * (sar y 1))) + ((sar z 1) * (sar z 1))) 28) 1)))), (m3, zaJ k 4 f3)]) rfl dX9_turn_92 (fun H locs hP hD hS => ?_)
  refine lv_aload_n hx hb dX9_turn_93 rfl (lv_at hl 6 rfl) ?_
  refine va_get (D := D) (ci := 8) (v := .ref m2) (C := RX9) (T := TX9) (N := 43) hx hb hts hinX9 hown hK hP 0 rfl rfl 2 (Nat.le_of_ble_eq_true rfl) hl16 (fun _ h9 => h9) rfl dX9_turn_94 ?_
  refine lv_iconst (v := 1) hx hb dX9_turn_97 (by decide) ?_
  refine lv_lload hx hb dX9_turn_98 (lv_at hl 5 rfl) ?_
  refine lv_lload hx hb dX9_turn_100 (lv_at hl 0 rfl) ?_
  refine lv_lmul hx hb dX9_turn_102 ?_
  refine lv_bipush (v := 28) hx hb dX9_turn_103 (by decide) ?_
  refine lv_lshr (v := sar ((sar x 1) * (268435456 - (fdiv (sar ((((sar x 1) * (sar x 1)) + ((sar y 1) * (sar y 1))) + ((sar z 1) * (sar z 1))) 28) 6))) 28) hx hb dX9_turn_105 rfl ?_
  refine lv_topl (fun x_1 ex_1 => ?_)
  refine z_last hx hb hK hP hD hS 2 rfl 1 zx1 (by decide) (ws' := [(o, .inr (8, [.ref m0, .ref m1, .ref m2, .ref m3, .ref m4, .ref m5, .ref m6, .ref m7, .ref m8, .ref m9, .ref m10, .ref m11, .ref m12, .long z13, .long z14, .int z15, .int z16, .int z17, .ref m18, .ref m19, .int z20, .ref m21, .ref m22, .ref m23, .ref m24, .ref m25, .int z26, .int z27, .int z28, .int z29, .int z30, .ref m31, .ref m32, .ref m33, .ref m34, .ref m35, .ref m36, .ref m37, .long z38, .ref m39, .ref m40, .int z41, .ref m42])), (qa, zaJ k 4 fu), (m2, zaJ k 4 (vp_updL (vp_updL f2 0 (268435456 - (sar (sar ((((sar x 1) * (sar x 1)) + ((sar y 1) * (sar y 1))) + ((sar z 1) * (sar z 1))) 28) 1))) 1 x_1)), (m3, zaJ k 4 f3)]) rfl dX9_turn_106 (fun H locs hP hD hS => ?_)
  refine lv_aload_n hx hb dX9_turn_107 rfl (lv_at hl 6 rfl) ?_
  refine va_get (D := D) (ci := 8) (v := .ref m2) (C := RX9) (T := TX9) (N := 43) hx hb hts hinX9 hown hK hP 0 rfl rfl 2 (Nat.le_of_ble_eq_true rfl) hl16 (fun _ h9 => h9) rfl dX9_turn_108 ?_
  refine lv_iconst (v := 2) hx hb dX9_turn_111 (by decide) ?_
  refine lv_lload hx hb dX9_turn_112 (lv_at hl 4 rfl) ?_
  refine lv_lload hx hb dX9_turn_114 (lv_at hl 0 rfl) ?_
  refine lv_lmul hx hb dX9_turn_116 ?_
  refine lv_bipush (v := 28) hx hb dX9_turn_117 (by decide) ?_
  refine lv_lshr (v := sar ((sar y 1) * (268435456 - (fdiv (sar ((((sar x 1) * (sar x 1)) + ((sar y 1) * (sar y 1))) + ((sar z 1) * (sar z 1))) 28) 6))) 28) hx hb dX9_turn_119 rfl ?_
  refine lv_topl (fun x_2 ex_2 => ?_)
  refine z_last hx hb hK hP hD hS 2 rfl 2 zx2 (by decide) (ws' := [(o, .inr (8, [.ref m0, .ref m1, .ref m2, .ref m3, .ref m4, .ref m5, .ref m6, .ref m7, .ref m8, .ref m9, .ref m10, .ref m11, .ref m12, .long z13, .long z14, .int z15, .int z16, .int z17, .ref m18, .ref m19, .int z20, .ref m21, .ref m22, .ref m23, .ref m24, .ref m25, .int z26, .int z27, .int z28, .int z29, .int z30, .ref m31, .ref m32, .ref m33, .ref m34, .ref m35, .ref m36, .ref m37, .long z38, .ref m39, .ref m40, .int z41, .ref m42])), (qa, zaJ k 4 fu), (m2, zaJ k 4 (vp_updL (vp_updL (vp_updL f2 0 (268435456 - (sar (sar ((((sar x 1) * (sar x 1)) + ((sar y 1) * (sar y 1))) + ((sar z 1) * (sar z 1))) 28) 1))) 1 x_1) 2 x_2)), (m3, zaJ k 4 f3)]) rfl dX9_turn_120 (fun H locs hP hD hS => ?_)
  refine lv_aload_n hx hb dX9_turn_121 rfl (lv_at hl 6 rfl) ?_
  refine va_get (D := D) (ci := 8) (v := .ref m2) (C := RX9) (T := TX9) (N := 43) hx hb hts hinX9 hown hK hP 0 rfl rfl 2 (Nat.le_of_ble_eq_true rfl) hl16 (fun _ h9 => h9) rfl dX9_turn_122 ?_
  refine lv_iconst (v := 3) hx hb dX9_turn_125 (by decide) ?_
  refine lv_lload hx hb dX9_turn_126 (lv_at hl 3 rfl) ?_
  refine lv_lload hx hb dX9_turn_128 (lv_at hl 0 rfl) ?_
  refine lv_lmul hx hb dX9_turn_130 ?_
  refine lv_bipush (v := 28) hx hb dX9_turn_131 (by decide) ?_
  refine lv_lshr (v := sar ((sar z 1) * (268435456 - (fdiv (sar ((((sar x 1) * (sar x 1)) + ((sar y 1) * (sar y 1))) + ((sar z 1) * (sar z 1))) 28) 6))) 28) hx hb dX9_turn_133 rfl ?_
  refine lv_topl (fun x_3 ex_3 => ?_)
  refine z_last hx hb hK hP hD hS 2 rfl 3 zx3 (by decide) (ws' := [(o, .inr (8, [.ref m0, .ref m1, .ref m2, .ref m3, .ref m4, .ref m5, .ref m6, .ref m7, .ref m8, .ref m9, .ref m10, .ref m11, .ref m12, .long z13, .long z14, .int z15, .int z16, .int z17, .ref m18, .ref m19, .int z20, .ref m21, .ref m22, .ref m23, .ref m24, .ref m25, .int z26, .int z27, .int z28, .int z29, .int z30, .ref m31, .ref m32, .ref m33, .ref m34, .ref m35, .ref m36, .ref m37, .long z38, .ref m39, .ref m40, .int z41, .ref m42])), (qa, zaJ k 4 fu), (m2, zaJ k 4 (vp_updL (vp_updL (vp_updL (vp_updL f2 0 (268435456 - (sar (sar ((((sar x 1) * (sar x 1)) + ((sar y 1) * (sar y 1))) + ((sar z 1) * (sar z 1))) 28) 1))) 1 x_1) 2 x_2) 3 x_3)), (m3, zaJ k 4 f3)]) rfl dX9_turn_134 (fun H locs hP hD hS => ?_)
  refine lv_aload_n hx hb dX9_turn_135 rfl (lv_at hl 6 rfl) ?_
  refine lv_aload_n hx hb dX9_turn_136 rfl (lv_at hl 7 rfl) ?_
  refine lv_aload_n hx hb dX9_turn_137 rfl (lv_at hl 6 rfl) ?_
  refine va_get (D := D) (ci := 8) (v := .ref m2) (C := RX9) (T := TX9) (N := 43) hx hb hts hinX9 hown hK hP 0 rfl rfl 2 (Nat.le_of_ble_eq_true rfl) hl16 (fun _ h9 => h9) rfl dX9_turn_138 ?_
  refine z_callv0 (wc := [(o, .inr (8, [.ref m0, .ref m1, .ref m2, .ref m3, .ref m4, .ref m5, .ref m6, .ref m7, .ref m8, .ref m9, .ref m10, .ref m11, .ref m12, .long z13, .long z14, .int z15, .int z16, .int z17, .ref m18, .ref m19, .int z20, .ref m21, .ref m22, .ref m23, .ref m24, .ref m25, .int z26, .int z27, .int z28, .int z29, .int z30, .ref m31, .ref m32, .ref m33, .ref m34, .ref m35, .ref m36, .ref m37, .long z38, .ref m39, .ref m40, .int z41, .ref m42])), (qa, zaJ k 4 fu), (m2, zaJ k 4 (vp_updL (vp_updL (vp_updL (vp_updL f2 0 (268435456 - (sar (sar ((((sar x 1) * (sar x 1)) + ((sar y 1) * (sar y 1))) + ((sar z 1) * (sar z 1))) 28) 1))) 1 x_1) 2 x_2) 3 x_3)), (m3, zaJ k 4 f3)]) (wr := []) (va_runV (As := [.ref qa, .ref m2]) (rest := []) ⟨hx, hb, hml, hown, hts⟩ (c_X9_multiply l D k H.size o m0 m1 m2 m3 m4 m5 m6 m7 m8 m9 m10 m11 m12 m18 m19 m21 m22 m23 m24 m25 m31 m32 m33 m34 m35 m36 m37 m39 m40 m42 z13 z14 z38 z15 z16 z17 z20 z26 z27 z28 z29 z30 z41 qa m2 fu (vp_updL (vp_updL (vp_updL (vp_updL f2 0 (268435456 - (sar (sar ((((sar x 1) * (sar x 1)) + ((sar y 1) * (sar y 1))) + ((sar z 1) * (sar z 1))) 28) 1))) 1 x_1) 2 x_2) 3 x_3) f3) (cwV 2 hts gX9_turn_X9_multiply rfl rfl rfl (by decide +kernel) ⟨Nat.le_of_ble_eq_true rfl, Nat.le_of_ble_eq_true rfl⟩) (z_preV (wc := [(o, .inr (8, [.ref m0, .ref m1, .ref m2, .ref m3, .ref m4, .ref m5, .ref m6, .ref m7, .ref m8, .ref m9, .ref m10, .ref m11, .ref m12, .long z13, .long z14, .int z15, .int z16, .int z17, .ref m18, .ref m19, .int z20, .ref m21, .ref m22, .ref m23, .ref m24, .ref m25, .int z26, .int z27, .int z28, .int z29, .int z30, .ref m31, .ref m32, .ref m33, .ref m34, .ref m35, .ref m36, .ref m37, .long z38, .ref m39, .ref m40, .int z41, .ref m42])), (qa, zaJ k 4 fu), (m2, zaJ k 4 (vp_updL (vp_updL (vp_updL (vp_updL f2 0 (268435456 - (sar (sar ((((sar x 1) * (sar x 1)) + ((sar y 1) * (sar y 1))) + ((sar z 1) * (sar z 1))) 28) 1))) 1 x_1) 2 x_2) 3 x_3)), (m3, zaJ k 4 f3)]) 0 8 hP hD hK [0, 1, 2, 3] rfl rfl rfl rfl zb0 zp0) rfl rfl hl.1 rfl (lv_room (Nat.le_of_ble_eq_true rfl)) dX9_turn_141 ⟨Nat.zero_le _, Nat.zero_le _⟩) hP hD hS hA [0, 1, 2, 3] [] rfl rfl rfl (by decide) (fun w H locs hF hP hD hS => ?_)
  subst hF
  have hP : va_P D vwCl [(o, .inr (8, [.ref m0, .ref m1, .ref m2, .ref m3, .ref m4, .ref m5, .ref m6, .ref m7, .ref m8, .ref m9, .ref m10, .ref m11, .ref m12, .long z13, .long z14, .int z15, .int z16, .int z17, .ref m18, .ref m19, .int z20, .ref m21, .ref m22, .ref m23, .ref m24, .ref m25, .int z26, .int z27, .int z28, .int z29, .int z30, .ref m31, .ref m32, .ref m33, .ref m34, .ref m35, .ref m36, .ref m37, .long z38, .ref m39, .ref m40, .int z41, .ref m42])), (qa, zaJ k 4 fu), (m2, zaJ k 4 (vp_updL (vp_updL (vp_updL (vp_updL f2 0 (268435456 - (sar (sar ((((sar x 1) * (sar x 1)) + ((sar y 1) * (sar y 1))) + ((sar z 1) * (sar z 1))) 28) 1))) 1 x_1) 2 x_2) 3 x_3)), (m3, zaJ k 4 (qmul fu (vp_updL (vp_updL (vp_updL (vp_updL f2 0 (268435456 - (sar (sar ((((sar x 1) * (sar x 1)) + ((sar y 1) * (sar y 1))) + ((sar z 1) * (sar z 1))) 28) 1))) 1 x_1) 2 x_2) 3 x_3)))] H := hP
  have hD : va_D A [(o, .inr (8, [.ref m0, .ref m1, .ref m2, .ref m3, .ref m4, .ref m5, .ref m6, .ref m7, .ref m8, .ref m9, .ref m10, .ref m11, .ref m12, .long z13, .long z14, .int z15, .int z16, .int z17, .ref m18, .ref m19, .int z20, .ref m21, .ref m22, .ref m23, .ref m24, .ref m25, .int z26, .int z27, .int z28, .int z29, .int z30, .ref m31, .ref m32, .ref m33, .ref m34, .ref m35, .ref m36, .ref m37, .long z38, .ref m39, .ref m40, .int z41, .ref m42])), (qa, zaJ k 4 fu), (m2, zaJ k 4 (vp_updL (vp_updL (vp_updL (vp_updL f2 0 (268435456 - (sar (sar ((((sar x 1) * (sar x 1)) + ((sar y 1) * (sar y 1))) + ((sar z 1) * (sar z 1))) 28) 1))) 1 x_1) 2 x_2) 3 x_3)), (m3, zaJ k 4 (qmul fu (vp_updL (vp_updL (vp_updL (vp_updL f2 0 (268435456 - (sar (sar ((((sar x 1) * (sar x 1)) + ((sar y 1) * (sar y 1))) + ((sar z 1) * (sar z 1))) 28) 1))) 1 x_1) 2 x_2) 3 x_3)))] := hD
  refine lv_aload_n hx hb dX9_turn_144 rfl (lv_at hl 6 rfl) ?_
  refine va_get (D := D) (ci := 8) (v := .ref m3) (C := RX9) (T := TX9) (N := 43) hx hb hts hinX9 hown hK hP 0 rfl rfl 3 (Nat.le_of_ble_eq_true rfl) hl19 (fun _ h9 => h9) rfl dX9_turn_145 ?_
  refine lv_iconst (v := 0) hx hb dX9_turn_148 (by decide) ?_
  refine z_lald hx hb hK hP 3 rfl 0 zx0 (by decide) (v := (qmul fu (vp_updL (vp_updL (vp_updL (vp_updL f2 0 (268435456 - (sar (sar ((((sar x 1) * (sar x 1)) + ((sar y 1) * (sar y 1))) + ((sar z 1) * (sar z 1))) 28) 1))) 1 x_1) 2 x_2) 3 x_3)) 0) rfl dX9_turn_149 ?_
  refine lv_aload_n hx hb dX9_turn_150 rfl (lv_at hl 6 rfl) ?_
  refine va_get (D := D) (ci := 8) (v := .ref m3) (C := RX9) (T := TX9) (N := 43) hx hb hts hinX9 hown hK hP 0 rfl rfl 3 (Nat.le_of_ble_eq_true rfl) hl19 (fun _ h9 => h9) rfl dX9_turn_151 ?_
  refine lv_iconst (v := 0) hx hb dX9_turn_154 (by decide) ?_
  refine z_lald hx hb hK hP 3 rfl 0 zx0 (by decide) (v := (qmul fu (vp_updL (vp_updL (vp_updL (vp_updL f2 0 (268435456 - (sar (sar ((((sar x 1) * (sar x 1)) + ((sar y 1) * (sar y 1))) + ((sar z 1) * (sar z 1))) 28) 1))) 1 x_1) 2 x_2) 3 x_3)) 0) rfl dX9_turn_155 ?_
  refine lv_lmul hx hb dX9_turn_156 ?_
  refine lv_aload_n hx hb dX9_turn_157 rfl (lv_at hl 6 rfl) ?_
  refine va_get (D := D) (ci := 8) (v := .ref m3) (C := RX9) (T := TX9) (N := 43) hx hb hts hinX9 hown hK hP 0 rfl rfl 3 (Nat.le_of_ble_eq_true rfl) hl19 (fun _ h9 => h9) rfl dX9_turn_158 ?_
  refine lv_iconst (v := 1) hx hb dX9_turn_161 (by decide) ?_
  refine z_lald hx hb hK hP 3 rfl 1 zx1 (by decide) (v := (qmul fu (vp_updL (vp_updL (vp_updL (vp_updL f2 0 (268435456 - (sar (sar ((((sar x 1) * (sar x 1)) + ((sar y 1) * (sar y 1))) + ((sar z 1) * (sar z 1))) 28) 1))) 1 x_1) 2 x_2) 3 x_3)) 1) rfl dX9_turn_162 ?_
  refine lv_aload_n hx hb dX9_turn_163 rfl (lv_at hl 6 rfl) ?_
  refine va_get (D := D) (ci := 8) (v := .ref m3) (C := RX9) (T := TX9) (N := 43) hx hb hts hinX9 hown hK hP 0 rfl rfl 3 (Nat.le_of_ble_eq_true rfl) hl19 (fun _ h9 => h9) rfl dX9_turn_164 ?_
  refine lv_iconst (v := 1) hx hb dX9_turn_167 (by decide) ?_
  refine z_lald hx hb hK hP 3 rfl 1 zx1 (by decide) (v := (qmul fu (vp_updL (vp_updL (vp_updL (vp_updL f2 0 (268435456 - (sar (sar ((((sar x 1) * (sar x 1)) + ((sar y 1) * (sar y 1))) + ((sar z 1) * (sar z 1))) 28) 1))) 1 x_1) 2 x_2) 3 x_3)) 1) rfl dX9_turn_168 ?_
  refine lv_lmul hx hb dX9_turn_169 ?_
  refine lv_ladd hx hb dX9_turn_170 ?_
  refine lv_aload_n hx hb dX9_turn_171 rfl (lv_at hl 6 rfl) ?_
  refine va_get (D := D) (ci := 8) (v := .ref m3) (C := RX9) (T := TX9) (N := 43) hx hb hts hinX9 hown hK hP 0 rfl rfl 3 (Nat.le_of_ble_eq_true rfl) hl19 (fun _ h9 => h9) rfl dX9_turn_172 ?_
  refine lv_iconst (v := 2) hx hb dX9_turn_175 (by decide) ?_
  refine z_lald hx hb hK hP 3 rfl 2 zx2 (by decide) (v := (qmul fu (vp_updL (vp_updL (vp_updL (vp_updL f2 0 (268435456 - (sar (sar ((((sar x 1) * (sar x 1)) + ((sar y 1) * (sar y 1))) + ((sar z 1) * (sar z 1))) 28) 1))) 1 x_1) 2 x_2) 3 x_3)) 2) rfl dX9_turn_176 ?_
  refine lv_aload_n hx hb dX9_turn_177 rfl (lv_at hl 6 rfl) ?_
  refine va_get (D := D) (ci := 8) (v := .ref m3) (C := RX9) (T := TX9) (N := 43) hx hb hts hinX9 hown hK hP 0 rfl rfl 3 (Nat.le_of_ble_eq_true rfl) hl19 (fun _ h9 => h9) rfl dX9_turn_178 ?_
  refine lv_iconst (v := 2) hx hb dX9_turn_181 (by decide) ?_
  refine z_lald hx hb hK hP 3 rfl 2 zx2 (by decide) (v := (qmul fu (vp_updL (vp_updL (vp_updL (vp_updL f2 0 (268435456 - (sar (sar ((((sar x 1) * (sar x 1)) + ((sar y 1) * (sar y 1))) + ((sar z 1) * (sar z 1))) 28) 1))) 1 x_1) 2 x_2) 3 x_3)) 2) rfl dX9_turn_182 ?_
  refine lv_lmul hx hb dX9_turn_183 ?_
  refine lv_ladd hx hb dX9_turn_184 ?_
  refine lv_aload_n hx hb dX9_turn_185 rfl (lv_at hl 6 rfl) ?_
  refine va_get (D := D) (ci := 8) (v := .ref m3) (C := RX9) (T := TX9) (N := 43) hx hb hts hinX9 hown hK hP 0 rfl rfl 3 (Nat.le_of_ble_eq_true rfl) hl19 (fun _ h9 => h9) rfl dX9_turn_186 ?_
  refine lv_iconst (v := 3) hx hb dX9_turn_189 (by decide) ?_
  refine z_lald hx hb hK hP 3 rfl 3 zx3 (by decide) (v := (qmul fu (vp_updL (vp_updL (vp_updL (vp_updL f2 0 (268435456 - (sar (sar ((((sar x 1) * (sar x 1)) + ((sar y 1) * (sar y 1))) + ((sar z 1) * (sar z 1))) 28) 1))) 1 x_1) 2 x_2) 3 x_3)) 3) rfl dX9_turn_190 ?_
  refine lv_aload_n hx hb dX9_turn_191 rfl (lv_at hl 6 rfl) ?_
  refine va_get (D := D) (ci := 8) (v := .ref m3) (C := RX9) (T := TX9) (N := 43) hx hb hts hinX9 hown hK hP 0 rfl rfl 3 (Nat.le_of_ble_eq_true rfl) hl19 (fun _ h9 => h9) rfl dX9_turn_192 ?_
  refine lv_iconst (v := 3) hx hb dX9_turn_195 (by decide) ?_
  refine z_lald hx hb hK hP 3 rfl 3 zx3 (by decide) (v := (qmul fu (vp_updL (vp_updL (vp_updL (vp_updL f2 0 (268435456 - (sar (sar ((((sar x 1) * (sar x 1)) + ((sar y 1) * (sar y 1))) + ((sar z 1) * (sar z 1))) 28) 1))) 1 x_1) 2 x_2) 3 x_3)) 3) rfl dX9_turn_196 ?_
  refine lv_lmul hx hb dX9_turn_197 ?_
  refine lv_ladd hx hb dX9_turn_198 ?_
  refine lv_bipush (v := 28) hx hb dX9_turn_199 (by decide) ?_
  refine lv_lshr (v := sar ((((((qmul fu (vp_updL (vp_updL (vp_updL (vp_updL f2 0 (268435456 - (sar (sar ((((sar x 1) * (sar x 1)) + ((sar y 1) * (sar y 1))) + ((sar z 1) * (sar z 1))) 28) 1))) 1 x_1) 2 x_2) 3 x_3)) 0) * ((qmul fu (vp_updL (vp_updL (vp_updL (vp_updL f2 0 (268435456 - (sar (sar ((((sar x 1) * (sar x 1)) + ((sar y 1) * (sar y 1))) + ((sar z 1) * (sar z 1))) 28) 1))) 1 x_1) 2 x_2) 3 x_3)) 0)) + (((qmul fu (vp_updL (vp_updL (vp_updL (vp_updL f2 0 (268435456 - (sar (sar ((((sar x 1) * (sar x 1)) + ((sar y 1) * (sar y 1))) + ((sar z 1) * (sar z 1))) 28) 1))) 1 x_1) 2 x_2) 3 x_3)) 1) * ((qmul fu (vp_updL (vp_updL (vp_updL (vp_updL f2 0 (268435456 - (sar (sar ((((sar x 1) * (sar x 1)) + ((sar y 1) * (sar y 1))) + ((sar z 1) * (sar z 1))) 28) 1))) 1 x_1) 2 x_2) 3 x_3)) 1))) + (((qmul fu (vp_updL (vp_updL (vp_updL (vp_updL f2 0 (268435456 - (sar (sar ((((sar x 1) * (sar x 1)) + ((sar y 1) * (sar y 1))) + ((sar z 1) * (sar z 1))) 28) 1))) 1 x_1) 2 x_2) 3 x_3)) 2) * ((qmul fu (vp_updL (vp_updL (vp_updL (vp_updL f2 0 (268435456 - (sar (sar ((((sar x 1) * (sar x 1)) + ((sar y 1) * (sar y 1))) + ((sar z 1) * (sar z 1))) 28) 1))) 1 x_1) 2 x_2) 3 x_3)) 2))) + (((qmul fu (vp_updL (vp_updL (vp_updL (vp_updL f2 0 (268435456 - (sar (sar ((((sar x 1) * (sar x 1)) + ((sar y 1) * (sar y 1))) + ((sar z 1) * (sar z 1))) 28) 1))) 1 x_1) 2 x_2) 3 x_3)) 3) * ((qmul fu (vp_updL (vp_updL (vp_updL (vp_updL f2 0 (268435456 - (sar (sar ((((sar x 1) * (sar x 1)) + ((sar y 1) * (sar y 1))) + ((sar z 1) * (sar z 1))) 28) 1))) 1 x_1) 2 x_2) 3 x_3)) 3))) 28) hx hb dX9_turn_201 rfl ?_
  refine lv_topl (fun x_4 ex_4 => ?_)
  refine lv_lstore (lv' := [(21, .long x_4), (19, .long (268435456 - (fdiv (sar ((((sar x 1) * (sar x 1)) + ((sar y 1) * (sar y 1))) + ((sar z 1) * (sar z 1))) 28) 6))), (17, .long (268435456 - (sar (sar ((((sar x 1) * (sar x 1)) + ((sar y 1) * (sar y 1))) + ((sar z 1) * (sar z 1))) 28) 1))), (15, .long (sar ((((sar x 1) * (sar x 1)) + ((sar y 1) * (sar y 1))) + ((sar z 1) * (sar z 1))) 28)), (13, .long (sar z 1)), (11, .long (sar y 1)), (9, .long (sar x 1)), (0, .ref o), (1, .ref qa), (2, .long x), (4, .long y), (6, .long z), (8, .int 0)]) hx hb dX9_turn_202 hl (by decide) rfl (fun ls hl => ?_)
  refine lv_ldc2 hx hb hown hl113 dX9_turn_204 ?_
  refine lv_ldc2 hx hb hown hl113 dX9_turn_207 ?_
  refine lv_lload hx hb dX9_turn_210 (lv_at hl 0 rfl) ?_
  refine lv_lsub hx hb dX9_turn_212 ?_
  refine lv_iconst (v := 1) hx hb dX9_turn_213 (by decide) ?_
  refine lv_lshr (v := sar (268435456 - x_4) 1) hx hb dX9_turn_214 rfl ?_
  refine lv_ladd hx hb dX9_turn_215 ?_
  refine lv_lstore (lv' := [(23, .long (268435456 + (sar (268435456 - x_4) 1))), (21, .long x_4), (19, .long (268435456 - (fdiv (sar ((((sar x 1) * (sar x 1)) + ((sar y 1) * (sar y 1))) + ((sar z 1) * (sar z 1))) 28) 6))), (17, .long (268435456 - (sar (sar ((((sar x 1) * (sar x 1)) + ((sar y 1) * (sar y 1))) + ((sar z 1) * (sar z 1))) 28) 1))), (15, .long (sar ((((sar x 1) * (sar x 1)) + ((sar y 1) * (sar y 1))) + ((sar z 1) * (sar z 1))) 28)), (13, .long (sar z 1)), (11, .long (sar y 1)), (9, .long (sar x 1)), (0, .ref o), (1, .ref qa), (2, .long x), (4, .long y), (6, .long z), (8, .int 0)]) hx hb dX9_turn_216 hl (by decide) rfl (fun ls hl => ?_)
  refine lv_iconst (v := 0) hx hb dX9_turn_218 (by decide) ?_
  refine lv_istore (lv' := [(25, .int 0), (23, .long (268435456 + (sar (268435456 - x_4) 1))), (21, .long x_4), (19, .long (268435456 - (fdiv (sar ((((sar x 1) * (sar x 1)) + ((sar y 1) * (sar y 1))) + ((sar z 1) * (sar z 1))) 28) 6))), (17, .long (268435456 - (sar (sar ((((sar x 1) * (sar x 1)) + ((sar y 1) * (sar y 1))) + ((sar z 1) * (sar z 1))) 28) 1))), (15, .long (sar ((((sar x 1) * (sar x 1)) + ((sar y 1) * (sar y 1))) + ((sar z 1) * (sar z 1))) 28)), (13, .long (sar z 1)), (11, .long (sar y 1)), (9, .long (sar x 1)), (0, .ref o), (1, .ref qa), (2, .long x), (4, .long y), (6, .long z), (8, .int 0)]) hx hb dX9_turn_219 hl (by decide) rfl (fun ls hl => ?_)
  refine lv_iload hx hb dX9_turn_221 (lv_at hl 0 rfl) ?_
  refine lv_iconst (v := 4) hx hb dX9_turn_223 (by decide) ?_
  refine lv_icmp_ge (tgt := 250) hx hb dX9_turn_224 (by decide) (fun c => absurd c (by decide)) (fun _ => ?_)
  refine lv_aload_n hx hb dX9_turn_227 rfl (lv_at hl 10 rfl) ?_
  refine lv_iload hx hb dX9_turn_228 (lv_at hl 0 rfl) ?_
  refine lv_aload_n hx hb dX9_turn_230 rfl (lv_at hl 9 rfl) ?_
  refine va_get (D := D) (ci := 8) (v := .ref m3) (C := RX9) (T := TX9) (N := 43) hx hb hts hinX9 hown hK hP 0 rfl rfl 3 (Nat.le_of_ble_eq_true rfl) hl19 (fun _ h9 => h9) rfl dX9_turn_231 ?_
  refine lv_iload hx hb dX9_turn_234 (lv_at hl 0 rfl) ?_
  refine z_lald hx hb hK hP 3 rfl 0 zx0 (by decide) (v := (qmul fu (vp_updL (vp_updL (vp_updL (vp_updL f2 0 (268435456 - (sar (sar ((((sar x 1) * (sar x 1)) + ((sar y 1) * (sar y 1))) + ((sar z 1) * (sar z 1))) 28) 1))) 1 x_1) 2 x_2) 3 x_3)) 0) rfl dX9_turn_236 ?_
  refine lv_lload hx hb dX9_turn_237 (lv_at hl 1 rfl) ?_
  refine lv_lmul hx hb dX9_turn_239 ?_
  refine lv_bipush (v := 28) hx hb dX9_turn_240 (by decide) ?_
  refine lv_lshr (v := sar (((qmul fu (vp_updL (vp_updL (vp_updL (vp_updL f2 0 (268435456 - (sar (sar ((((sar x 1) * (sar x 1)) + ((sar y 1) * (sar y 1))) + ((sar z 1) * (sar z 1))) 28) 1))) 1 x_1) 2 x_2) 3 x_3)) 0) * (268435456 + (sar (268435456 - x_4) 1))) 28) hx hb dX9_turn_242 rfl ?_
  refine lv_topl (fun x_5 ex_5 => ?_)
  refine z_last hx hb hK hP hD hS 1 rfl 0 zx0 (by decide) (ws' := [(o, .inr (8, [.ref m0, .ref m1, .ref m2, .ref m3, .ref m4, .ref m5, .ref m6, .ref m7, .ref m8, .ref m9, .ref m10, .ref m11, .ref m12, .long z13, .long z14, .int z15, .int z16, .int z17, .ref m18, .ref m19, .int z20, .ref m21, .ref m22, .ref m23, .ref m24, .ref m25, .int z26, .int z27, .int z28, .int z29, .int z30, .ref m31, .ref m32, .ref m33, .ref m34, .ref m35, .ref m36, .ref m37, .long z38, .ref m39, .ref m40, .int z41, .ref m42])), (qa, zaJ k 4 (vp_updL fu 0 x_5)), (m2, zaJ k 4 (vp_updL (vp_updL (vp_updL (vp_updL f2 0 (268435456 - (sar (sar ((((sar x 1) * (sar x 1)) + ((sar y 1) * (sar y 1))) + ((sar z 1) * (sar z 1))) 28) 1))) 1 x_1) 2 x_2) 3 x_3)), (m3, zaJ k 4 (qmul fu (vp_updL (vp_updL (vp_updL (vp_updL f2 0 (268435456 - (sar (sar ((((sar x 1) * (sar x 1)) + ((sar y 1) * (sar y 1))) + ((sar z 1) * (sar z 1))) 28) 1))) 1 x_1) 2 x_2) 3 x_3)))]) rfl dX9_turn_243 (fun H locs hP hD hS => ?_)
  refine lv_iinc (v := 1) (lv' := [(25, .int 1), (23, .long (268435456 + (sar (268435456 - x_4) 1))), (21, .long x_4), (19, .long (268435456 - (fdiv (sar ((((sar x 1) * (sar x 1)) + ((sar y 1) * (sar y 1))) + ((sar z 1) * (sar z 1))) 28) 6))), (17, .long (268435456 - (sar (sar ((((sar x 1) * (sar x 1)) + ((sar y 1) * (sar y 1))) + ((sar z 1) * (sar z 1))) 28) 1))), (15, .long (sar ((((sar x 1) * (sar x 1)) + ((sar y 1) * (sar y 1))) + ((sar z 1) * (sar z 1))) 28)), (13, .long (sar z 1)), (11, .long (sar y 1)), (9, .long (sar x 1)), (0, .ref o), (1, .ref qa), (2, .long x), (4, .long y), (6, .long z), (8, .int 0)]) hx hb dX9_turn_244 hl (k := 0) rfl (by decide) (by decide) rfl (fun ls hl => ?_)
  refine lv_goto (tgt := 221) hx hb dX9_turn_247 (by decide) ?_
  refine lv_iload hx hb dX9_turn_221 (lv_at hl 0 rfl) ?_
  refine lv_iconst (v := 4) hx hb dX9_turn_223 (by decide) ?_
  refine lv_icmp_ge (tgt := 250) hx hb dX9_turn_224 (by decide) (fun c => absurd c (by decide)) (fun _ => ?_)
  refine lv_aload_n hx hb dX9_turn_227 rfl (lv_at hl 10 rfl) ?_
  refine lv_iload hx hb dX9_turn_228 (lv_at hl 0 rfl) ?_
  refine lv_aload_n hx hb dX9_turn_230 rfl (lv_at hl 9 rfl) ?_
  refine va_get (D := D) (ci := 8) (v := .ref m3) (C := RX9) (T := TX9) (N := 43) hx hb hts hinX9 hown hK hP 0 rfl rfl 3 (Nat.le_of_ble_eq_true rfl) hl19 (fun _ h9 => h9) rfl dX9_turn_231 ?_
  refine lv_iload hx hb dX9_turn_234 (lv_at hl 0 rfl) ?_
  refine z_lald hx hb hK hP 3 rfl 1 zx1 (by decide) (v := (qmul fu (vp_updL (vp_updL (vp_updL (vp_updL f2 0 (268435456 - (sar (sar ((((sar x 1) * (sar x 1)) + ((sar y 1) * (sar y 1))) + ((sar z 1) * (sar z 1))) 28) 1))) 1 x_1) 2 x_2) 3 x_3)) 1) rfl dX9_turn_236 ?_
  refine lv_lload hx hb dX9_turn_237 (lv_at hl 1 rfl) ?_
  refine lv_lmul hx hb dX9_turn_239 ?_
  refine lv_bipush (v := 28) hx hb dX9_turn_240 (by decide) ?_
  refine lv_lshr (v := sar (((qmul fu (vp_updL (vp_updL (vp_updL (vp_updL f2 0 (268435456 - (sar (sar ((((sar x 1) * (sar x 1)) + ((sar y 1) * (sar y 1))) + ((sar z 1) * (sar z 1))) 28) 1))) 1 x_1) 2 x_2) 3 x_3)) 1) * (268435456 + (sar (268435456 - x_4) 1))) 28) hx hb dX9_turn_242 rfl ?_
  refine lv_topl (fun x_6 ex_6 => ?_)
  refine z_last hx hb hK hP hD hS 1 rfl 1 zx1 (by decide) (ws' := [(o, .inr (8, [.ref m0, .ref m1, .ref m2, .ref m3, .ref m4, .ref m5, .ref m6, .ref m7, .ref m8, .ref m9, .ref m10, .ref m11, .ref m12, .long z13, .long z14, .int z15, .int z16, .int z17, .ref m18, .ref m19, .int z20, .ref m21, .ref m22, .ref m23, .ref m24, .ref m25, .int z26, .int z27, .int z28, .int z29, .int z30, .ref m31, .ref m32, .ref m33, .ref m34, .ref m35, .ref m36, .ref m37, .long z38, .ref m39, .ref m40, .int z41, .ref m42])), (qa, zaJ k 4 (vp_updL (vp_updL fu 0 x_5) 1 x_6)), (m2, zaJ k 4 (vp_updL (vp_updL (vp_updL (vp_updL f2 0 (268435456 - (sar (sar ((((sar x 1) * (sar x 1)) + ((sar y 1) * (sar y 1))) + ((sar z 1) * (sar z 1))) 28) 1))) 1 x_1) 2 x_2) 3 x_3)), (m3, zaJ k 4 (qmul fu (vp_updL (vp_updL (vp_updL (vp_updL f2 0 (268435456 - (sar (sar ((((sar x 1) * (sar x 1)) + ((sar y 1) * (sar y 1))) + ((sar z 1) * (sar z 1))) 28) 1))) 1 x_1) 2 x_2) 3 x_3)))]) rfl dX9_turn_243 (fun H locs hP hD hS => ?_)
  refine lv_iinc (v := 2) (lv' := [(25, .int 2), (23, .long (268435456 + (sar (268435456 - x_4) 1))), (21, .long x_4), (19, .long (268435456 - (fdiv (sar ((((sar x 1) * (sar x 1)) + ((sar y 1) * (sar y 1))) + ((sar z 1) * (sar z 1))) 28) 6))), (17, .long (268435456 - (sar (sar ((((sar x 1) * (sar x 1)) + ((sar y 1) * (sar y 1))) + ((sar z 1) * (sar z 1))) 28) 1))), (15, .long (sar ((((sar x 1) * (sar x 1)) + ((sar y 1) * (sar y 1))) + ((sar z 1) * (sar z 1))) 28)), (13, .long (sar z 1)), (11, .long (sar y 1)), (9, .long (sar x 1)), (0, .ref o), (1, .ref qa), (2, .long x), (4, .long y), (6, .long z), (8, .int 0)]) hx hb dX9_turn_244 hl (k := 0) rfl (by decide) (by decide) rfl (fun ls hl => ?_)
  refine lv_goto (tgt := 221) hx hb dX9_turn_247 (by decide) ?_
  refine lv_iload hx hb dX9_turn_221 (lv_at hl 0 rfl) ?_
  refine lv_iconst (v := 4) hx hb dX9_turn_223 (by decide) ?_
  refine lv_icmp_ge (tgt := 250) hx hb dX9_turn_224 (by decide) (fun c => absurd c (by decide)) (fun _ => ?_)
  refine lv_aload_n hx hb dX9_turn_227 rfl (lv_at hl 10 rfl) ?_
  refine lv_iload hx hb dX9_turn_228 (lv_at hl 0 rfl) ?_
  refine lv_aload_n hx hb dX9_turn_230 rfl (lv_at hl 9 rfl) ?_
  refine va_get (D := D) (ci := 8) (v := .ref m3) (C := RX9) (T := TX9) (N := 43) hx hb hts hinX9 hown hK hP 0 rfl rfl 3 (Nat.le_of_ble_eq_true rfl) hl19 (fun _ h9 => h9) rfl dX9_turn_231 ?_
  refine lv_iload hx hb dX9_turn_234 (lv_at hl 0 rfl) ?_
  refine z_lald hx hb hK hP 3 rfl 2 zx2 (by decide) (v := (qmul fu (vp_updL (vp_updL (vp_updL (vp_updL f2 0 (268435456 - (sar (sar ((((sar x 1) * (sar x 1)) + ((sar y 1) * (sar y 1))) + ((sar z 1) * (sar z 1))) 28) 1))) 1 x_1) 2 x_2) 3 x_3)) 2) rfl dX9_turn_236 ?_
  refine lv_lload hx hb dX9_turn_237 (lv_at hl 1 rfl) ?_
  refine lv_lmul hx hb dX9_turn_239 ?_
  refine lv_bipush (v := 28) hx hb dX9_turn_240 (by decide) ?_
  refine lv_lshr (v := sar (((qmul fu (vp_updL (vp_updL (vp_updL (vp_updL f2 0 (268435456 - (sar (sar ((((sar x 1) * (sar x 1)) + ((sar y 1) * (sar y 1))) + ((sar z 1) * (sar z 1))) 28) 1))) 1 x_1) 2 x_2) 3 x_3)) 2) * (268435456 + (sar (268435456 - x_4) 1))) 28) hx hb dX9_turn_242 rfl ?_
  refine lv_topl (fun x_7 ex_7 => ?_)
  refine z_last hx hb hK hP hD hS 1 rfl 2 zx2 (by decide) (ws' := [(o, .inr (8, [.ref m0, .ref m1, .ref m2, .ref m3, .ref m4, .ref m5, .ref m6, .ref m7, .ref m8, .ref m9, .ref m10, .ref m11, .ref m12, .long z13, .long z14, .int z15, .int z16, .int z17, .ref m18, .ref m19, .int z20, .ref m21, .ref m22, .ref m23, .ref m24, .ref m25, .int z26, .int z27, .int z28, .int z29, .int z30, .ref m31, .ref m32, .ref m33, .ref m34, .ref m35, .ref m36, .ref m37, .long z38, .ref m39, .ref m40, .int z41, .ref m42])), (qa, zaJ k 4 (vp_updL (vp_updL (vp_updL fu 0 x_5) 1 x_6) 2 x_7)), (m2, zaJ k 4 (vp_updL (vp_updL (vp_updL (vp_updL f2 0 (268435456 - (sar (sar ((((sar x 1) * (sar x 1)) + ((sar y 1) * (sar y 1))) + ((sar z 1) * (sar z 1))) 28) 1))) 1 x_1) 2 x_2) 3 x_3)), (m3, zaJ k 4 (qmul fu (vp_updL (vp_updL (vp_updL (vp_updL f2 0 (268435456 - (sar (sar ((((sar x 1) * (sar x 1)) + ((sar y 1) * (sar y 1))) + ((sar z 1) * (sar z 1))) 28) 1))) 1 x_1) 2 x_2) 3 x_3)))]) rfl dX9_turn_243 (fun H locs hP hD hS => ?_)
  refine lv_iinc (v := 3) (lv' := [(25, .int 3), (23, .long (268435456 + (sar (268435456 - x_4) 1))), (21, .long x_4), (19, .long (268435456 - (fdiv (sar ((((sar x 1) * (sar x 1)) + ((sar y 1) * (sar y 1))) + ((sar z 1) * (sar z 1))) 28) 6))), (17, .long (268435456 - (sar (sar ((((sar x 1) * (sar x 1)) + ((sar y 1) * (sar y 1))) + ((sar z 1) * (sar z 1))) 28) 1))), (15, .long (sar ((((sar x 1) * (sar x 1)) + ((sar y 1) * (sar y 1))) + ((sar z 1) * (sar z 1))) 28)), (13, .long (sar z 1)), (11, .long (sar y 1)), (9, .long (sar x 1)), (0, .ref o), (1, .ref qa), (2, .long x), (4, .long y), (6, .long z), (8, .int 0)]) hx hb dX9_turn_244 hl (k := 0) rfl (by decide) (by decide) rfl (fun ls hl => ?_)
  refine lv_goto (tgt := 221) hx hb dX9_turn_247 (by decide) ?_
  refine lv_iload hx hb dX9_turn_221 (lv_at hl 0 rfl) ?_
  refine lv_iconst (v := 4) hx hb dX9_turn_223 (by decide) ?_
  refine lv_icmp_ge (tgt := 250) hx hb dX9_turn_224 (by decide) (fun c => absurd c (by decide)) (fun _ => ?_)
  refine lv_aload_n hx hb dX9_turn_227 rfl (lv_at hl 10 rfl) ?_
  refine lv_iload hx hb dX9_turn_228 (lv_at hl 0 rfl) ?_
  refine lv_aload_n hx hb dX9_turn_230 rfl (lv_at hl 9 rfl) ?_
  refine va_get (D := D) (ci := 8) (v := .ref m3) (C := RX9) (T := TX9) (N := 43) hx hb hts hinX9 hown hK hP 0 rfl rfl 3 (Nat.le_of_ble_eq_true rfl) hl19 (fun _ h9 => h9) rfl dX9_turn_231 ?_
  refine lv_iload hx hb dX9_turn_234 (lv_at hl 0 rfl) ?_
  refine z_lald hx hb hK hP 3 rfl 3 zx3 (by decide) (v := (qmul fu (vp_updL (vp_updL (vp_updL (vp_updL f2 0 (268435456 - (sar (sar ((((sar x 1) * (sar x 1)) + ((sar y 1) * (sar y 1))) + ((sar z 1) * (sar z 1))) 28) 1))) 1 x_1) 2 x_2) 3 x_3)) 3) rfl dX9_turn_236 ?_
  refine lv_lload hx hb dX9_turn_237 (lv_at hl 1 rfl) ?_
  refine lv_lmul hx hb dX9_turn_239 ?_
  refine lv_bipush (v := 28) hx hb dX9_turn_240 (by decide) ?_
  refine lv_lshr (v := sar (((qmul fu (vp_updL (vp_updL (vp_updL (vp_updL f2 0 (268435456 - (sar (sar ((((sar x 1) * (sar x 1)) + ((sar y 1) * (sar y 1))) + ((sar z 1) * (sar z 1))) 28) 1))) 1 x_1) 2 x_2) 3 x_3)) 3) * (268435456 + (sar (268435456 - x_4) 1))) 28) hx hb dX9_turn_242 rfl ?_
  refine lv_topl (fun x_8 ex_8 => ?_)
  refine z_last hx hb hK hP hD hS 1 rfl 3 zx3 (by decide) (ws' := [(o, .inr (8, [.ref m0, .ref m1, .ref m2, .ref m3, .ref m4, .ref m5, .ref m6, .ref m7, .ref m8, .ref m9, .ref m10, .ref m11, .ref m12, .long z13, .long z14, .int z15, .int z16, .int z17, .ref m18, .ref m19, .int z20, .ref m21, .ref m22, .ref m23, .ref m24, .ref m25, .int z26, .int z27, .int z28, .int z29, .int z30, .ref m31, .ref m32, .ref m33, .ref m34, .ref m35, .ref m36, .ref m37, .long z38, .ref m39, .ref m40, .int z41, .ref m42])), (qa, zaJ k 4 (vp_updL (vp_updL (vp_updL (vp_updL fu 0 x_5) 1 x_6) 2 x_7) 3 x_8)), (m2, zaJ k 4 (vp_updL (vp_updL (vp_updL (vp_updL f2 0 (268435456 - (sar (sar ((((sar x 1) * (sar x 1)) + ((sar y 1) * (sar y 1))) + ((sar z 1) * (sar z 1))) 28) 1))) 1 x_1) 2 x_2) 3 x_3)), (m3, zaJ k 4 (qmul fu (vp_updL (vp_updL (vp_updL (vp_updL f2 0 (268435456 - (sar (sar ((((sar x 1) * (sar x 1)) + ((sar y 1) * (sar y 1))) + ((sar z 1) * (sar z 1))) 28) 1))) 1 x_1) 2 x_2) 3 x_3)))]) rfl dX9_turn_243 (fun H locs hP hD hS => ?_)
  refine lv_iinc (v := 4) (lv' := [(25, .int 4), (23, .long (268435456 + (sar (268435456 - x_4) 1))), (21, .long x_4), (19, .long (268435456 - (fdiv (sar ((((sar x 1) * (sar x 1)) + ((sar y 1) * (sar y 1))) + ((sar z 1) * (sar z 1))) 28) 6))), (17, .long (268435456 - (sar (sar ((((sar x 1) * (sar x 1)) + ((sar y 1) * (sar y 1))) + ((sar z 1) * (sar z 1))) 28) 1))), (15, .long (sar ((((sar x 1) * (sar x 1)) + ((sar y 1) * (sar y 1))) + ((sar z 1) * (sar z 1))) 28)), (13, .long (sar z 1)), (11, .long (sar y 1)), (9, .long (sar x 1)), (0, .ref o), (1, .ref qa), (2, .long x), (4, .long y), (6, .long z), (8, .int 0)]) hx hb dX9_turn_244 hl (k := 0) rfl (by decide) (by decide) rfl (fun ls hl => ?_)
  refine lv_goto (tgt := 221) hx hb dX9_turn_247 (by decide) ?_
  refine lv_iload hx hb dX9_turn_221 (lv_at hl 0 rfl) ?_
  refine lv_iconst (v := 4) hx hb dX9_turn_223 (by decide) ?_
  refine lv_icmp_ge (tgt := 250) hx hb dX9_turn_224 (by decide) (fun _ => ?_) (fun c => absurd (by decide) c)
  have hP := z_congJ hP 1 rfl (g := qturn fu x y z) (zall4 (by (first | (simp only [ex_1, ex_2, ex_3, ex_4, ex_5, ex_6, ex_7, ex_8]; done) | (simp only [ex_1, ex_2, ex_3, ex_4, ex_5, ex_6, ex_7, ex_8]; rfl) | rfl)) (by (first | (simp only [ex_1, ex_2, ex_3, ex_4, ex_5, ex_6, ex_7, ex_8]; done) | (simp only [ex_1, ex_2, ex_3, ex_4, ex_5, ex_6, ex_7, ex_8]; rfl) | rfl)) (by (first | (simp only [ex_1, ex_2, ex_3, ex_4, ex_5, ex_6, ex_7, ex_8]; done) | (simp only [ex_1, ex_2, ex_3, ex_4, ex_5, ex_6, ex_7, ex_8]; rfl) | rfl)) (by (first | (simp only [ex_1, ex_2, ex_3, ex_4, ex_5, ex_6, ex_7, ex_8]; done) | (simp only [ex_1, ex_2, ex_3, ex_4, ex_5, ex_6, ex_7, ex_8]; rfl) | rfl))) (ws' := [(o, .inr (8, [.ref m0, .ref m1, .ref m2, .ref m3, .ref m4, .ref m5, .ref m6, .ref m7, .ref m8, .ref m9, .ref m10, .ref m11, .ref m12, .long z13, .long z14, .int z15, .int z16, .int z17, .ref m18, .ref m19, .int z20, .ref m21, .ref m22, .ref m23, .ref m24, .ref m25, .int z26, .int z27, .int z28, .int z29, .int z30, .ref m31, .ref m32, .ref m33, .ref m34, .ref m35, .ref m36, .ref m37, .long z38, .ref m39, .ref m40, .int z41, .ref m42])), (qa, zaJ k 4 (qturn fu x y z)), (m2, zaJ k 4 (vp_updL (vp_updL (vp_updL (vp_updL f2 0 (268435456 - (sar (sar ((((sar x 1) * (sar x 1)) + ((sar y 1) * (sar y 1))) + ((sar z 1) * (sar z 1))) 28) 1))) 1 x_1) 2 x_2) 3 x_3)), (m3, zaJ k 4 (qmul fu (vp_updL (vp_updL (vp_updL (vp_updL f2 0 (268435456 - (sar (sar ((((sar x 1) * (sar x 1)) + ((sar y 1) * (sar y 1))) + ((sar z 1) * (sar z 1))) 28) 1))) 1 x_1) 2 x_2) 3 x_3)))]) rfl
  have hD := z_congDJ hD 1 rfl (g := qturn fu x y z) (ws' := [(o, .inr (8, [.ref m0, .ref m1, .ref m2, .ref m3, .ref m4, .ref m5, .ref m6, .ref m7, .ref m8, .ref m9, .ref m10, .ref m11, .ref m12, .long z13, .long z14, .int z15, .int z16, .int z17, .ref m18, .ref m19, .int z20, .ref m21, .ref m22, .ref m23, .ref m24, .ref m25, .int z26, .int z27, .int z28, .int z29, .int z30, .ref m31, .ref m32, .ref m33, .ref m34, .ref m35, .ref m36, .ref m37, .long z38, .ref m39, .ref m40, .int z41, .ref m42])), (qa, zaJ k 4 (qturn fu x y z)), (m2, zaJ k 4 (vp_updL (vp_updL (vp_updL (vp_updL f2 0 (268435456 - (sar (sar ((((sar x 1) * (sar x 1)) + ((sar y 1) * (sar y 1))) + ((sar z 1) * (sar z 1))) 28) 1))) 1 x_1) 2 x_2) 3 x_3)), (m3, zaJ k 4 (qmul fu (vp_updL (vp_updL (vp_updL (vp_updL f2 0 (268435456 - (sar (sar ((((sar x 1) * (sar x 1)) + ((sar y 1) * (sar y 1))) + ((sar z 1) * (sar z 1))) 28) 1))) 1 x_1) 2 x_2) 3 x_3)))]) rfl
  have hP9 := hP.sub (ws' := [(o, .inr (8, [.ref m0, .ref m1, .ref m2, .ref m3, .ref m4, .ref m5, .ref m6, .ref m7, .ref m8, .ref m9, .ref m10, .ref m11, .ref m12, .long z13, .long z14, .int z15, .int z16, .int z17, .ref m18, .ref m19, .int z20, .ref m21, .ref m22, .ref m23, .ref m24, .ref m25, .int z26, .int z27, .int z28, .int z29, .int z30, .ref m31, .ref m32, .ref m33, .ref m34, .ref m35, .ref m36, .ref m37, .long z38, .ref m39, .ref m40, .int z41, .ref m42])), (qa, zaJ k 4 (qturn fu x y z)), (m2, zaJ k 4 (vp_updL (vp_updL (vp_updL (vp_updL f2 0 (268435456 - (sar (sar ((((sar x 1) * (sar x 1)) + ((sar y 1) * (sar y 1))) + ((sar z 1) * (sar z 1))) 28) 1))) 1 x_1) 2 x_2) 3 x_3)), (m3, zaJ k 4 (qmul fu (vp_updL (vp_updL (vp_updL (vp_updL f2 0 (268435456 - (sar (sar ((((sar x 1) * (sar x 1)) + ((sar y 1) * (sar y 1))) + ((sar z 1) * (sar z 1))) 28) 1))) 1 x_1) 2 x_2) 3 x_3)))]) [0, 1, 2, 3] rfl
  have hD9 := hD.sub (ws' := [(o, .inr (8, [.ref m0, .ref m1, .ref m2, .ref m3, .ref m4, .ref m5, .ref m6, .ref m7, .ref m8, .ref m9, .ref m10, .ref m11, .ref m12, .long z13, .long z14, .int z15, .int z16, .int z17, .ref m18, .ref m19, .int z20, .ref m21, .ref m22, .ref m23, .ref m24, .ref m25, .int z26, .int z27, .int z28, .int z29, .int z30, .ref m31, .ref m32, .ref m33, .ref m34, .ref m35, .ref m36, .ref m37, .long z38, .ref m39, .ref m40, .int z41, .ref m42])), (qa, zaJ k 4 (qturn fu x y z)), (m2, zaJ k 4 (vp_updL (vp_updL (vp_updL (vp_updL f2 0 (268435456 - (sar (sar ((((sar x 1) * (sar x 1)) + ((sar y 1) * (sar y 1))) + ((sar z 1) * (sar z 1))) 28) 1))) 1 x_1) 2 x_2) 3 x_3)), (m3, zaJ k 4 (qmul fu (vp_updL (vp_updL (vp_updL (vp_updL f2 0 (268435456 - (sar (sar ((((sar x 1) * (sar x 1)) + ((sar y 1) * (sar y 1))) + ((sar z 1) * (sar z 1))) 28) 1))) 1 x_1) 2 x_2) 3 x_3)))]) [0, 1, 2, 3] (by decide) rfl
  exact W.vret hx hb hr (fun t9 ht9 hW9 => ⟨⟨[(o, .inr (8, [.ref m0, .ref m1, .ref m2, .ref m3, .ref m4, .ref m5, .ref m6, .ref m7, .ref m8, .ref m9, .ref m10, .ref m11, .ref m12, .long z13, .long z14, .int z15, .int z16, .int z17, .ref m18, .ref m19, .int z20, .ref m21, .ref m22, .ref m23, .ref m24, .ref m25, .int z26, .int z27, .int z28, .int z29, .int z30, .ref m31, .ref m32, .ref m33, .ref m34, .ref m35, .ref m36, .ref m37, .long z38, .ref m39, .ref m40, .int z41, .ref m42])), (qa, zaJ k 4 (qturn fu x y z)), (m2, zaJ k 4 (vp_updL (vp_updL (vp_updL (vp_updL f2 0 (268435456 - (sar (sar ((((sar x 1) * (sar x 1)) + ((sar y 1) * (sar y 1))) + ((sar z 1) * (sar z 1))) 28) 1))) 1 x_1) 2 x_2) 3 x_3)), (m3, zaJ k 4 (qmul fu (vp_updL (vp_updL (vp_updL (vp_updL f2 0 (268435456 - (sar (sar ((((sar x 1) * (sar x 1)) + ((sar y 1) * (sar y 1))) + ((sar z 1) * (sar z 1))) 28) 1))) 1 x_1) 2 x_2) 3 x_3)))], rfl, ⟨(vp_updL (vp_updL (vp_updL (vp_updL f2 0 (268435456 - (sar (sar ((((sar x 1) * (sar x 1)) + ((sar y 1) * (sar y 1))) + ((sar z 1) * (sar z 1))) 28) 1))) 1 x_1) 2 x_2) 3 x_3), (qmul fu (vp_updL (vp_updL (vp_updL (vp_updL f2 0 (268435456 - (sar (sar ((((sar x 1) * (sar x 1)) + ((sar y 1) * (sar y 1))) + ((sar z 1) * (sar z 1))) 28) 1))) 1 x_1) 2 x_2) 3 x_3)), rfl⟩, by rw [ht9]; exact hP9, hD9⟩, hS.F ht9⟩) hS.2.2 dX9_turn_250
set_option maxHeartbeats 4000000 in
set_option maxRecDepth 100000 in
theorem c_X9_turn_1 (l : Launch) (D : va_G) (k : Nat → ClassId) (sz : Nat) (o m0 m1 m2 m3 m4 m5 m6 m7 m8 m9 m10 m11 m12 m18 m19 m21 m22 m23 m24 m25 m31 m32 m33 m34 m35 m36 m37 m39 m40 m42 : Nat) (z13 z14 z38 : Int64) (z15 z16 z17 z20 z26 z27 z28 z29 z30 z41 : Int32) (qa : Nat) (fu f2 f3 : Nat → Int64) (x y z : Int64) : Met l yX9_turn wsX9_turn ({ frames := 1, cells := 0, slots := 0, locals := 22 } : Room) (va_Pc [.ref o, .ref qa, .long x, .long y, .long z, .int 1] (zPre D k [(o, .inr (8, [.ref m0, .ref m1, .ref m2, .ref m3, .ref m4, .ref m5, .ref m6, .ref m7, .ref m8, .ref m9, .ref m10, .ref m11, .ref m12, .long z13, .long z14, .int z15, .int z16, .int z17, .ref m18, .ref m19, .int z20, .ref m21, .ref m22, .ref m23, .ref m24, .ref m25, .int z26, .int z27, .int z28, .int z29, .int z30, .ref m31, .ref m32, .ref m33, .ref m34, .ref m35, .ref m36, .ref m37, .long z38, .ref m39, .ref m40, .int z41, .ref m42])), (qa, zaJ k 4 fu), (m2, zaJ k 4 f2), (m3, zaJ k 4 f3)] sz zX0)) (zQv D [(o, .inr (8, [.ref m0, .ref m1, .ref m2, .ref m3, .ref m4, .ref m5, .ref m6, .ref m7, .ref m8, .ref m9, .ref m10, .ref m11, .ref m12, .long z13, .long z14, .int z15, .int z16, .int z17, .ref m18, .ref m19, .int z20, .ref m21, .ref m22, .ref m23, .ref m24, .ref m25, .int z26, .int z27, .int z28, .int z29, .int z30, .ref m31, .ref m32, .ref m33, .ref m34, .ref m35, .ref m36, .ref m37, .long z38, .ref m39, .ref m40, .int z41, .ref m42])), (qa, zaJ k 4 fu), (m2, zaJ k 4 f2), (m3, zaJ k 4 f3)] sz (fun w : va_W => ∃ (f22 f32 : Nat → Int64), w = [(o, .inr (8, [.ref m0, .ref m1, .ref m2, .ref m3, .ref m4, .ref m5, .ref m6, .ref m7, .ref m8, .ref m9, .ref m10, .ref m11, .ref m12, .long z13, .long z14, .int z15, .int z16, .int z17, .ref m18, .ref m19, .int z20, .ref m21, .ref m22, .ref m23, .ref m24, .ref m25, .int z26, .int z27, .int z28, .int z29, .int z30, .ref m31, .ref m32, .ref m33, .ref m34, .ref m35, .ref m36, .ref m37, .long z38, .ref m39, .ref m40, .int z41, .ref m42])), (qa, zaJ k 4 (qturnP fu x y z)), (m2, zaJ k 4 f22), (m3, zaJ k 4 f32)])) 0 0 (va_A [(o, .inr (8, [.ref m0, .ref m1, .ref m2, .ref m3, .ref m4, .ref m5, .ref m6, .ref m7, .ref m8, .ref m9, .ref m10, .ref m11, .ref m12, .long z13, .long z14, .int z15, .int z16, .int z17, .ref m18, .ref m19, .int z20, .ref m21, .ref m22, .ref m23, .ref m24, .ref m25, .int z26, .int z27, .int z28, .int z29, .int z30, .ref m31, .ref m32, .ref m33, .ref m34, .ref m35, .ref m36, .ref m37, .long z38, .ref m39, .ref m40, .int z41, .ref m42])), (qa, zaJ k 4 fu), (m2, zaJ k 4 f2), (m3, zaJ k 4 f3)] sz) := by
  refine Met.ofW (cc := cX9_turn) (maxL := 26) (ret := none) (by decide) rfl ?_
  intro p e s m args below meth c s₁ B hml hv
  obtain ⟨rfl, hsz, hP, hK, hD0, hE⟩ := hv
  have hx := B.exec
  have hb := B.bytes
  have hr := B.returns
  have hts := atoms_spec (ws := wsX9_turn) B.pre
  have hown : s.vm.findClass RX9 = some m.cls := findClass_of_methodNamed B.named
  have hlocks := B.notSynchronized
  subst hsz
  have hD := hD0.self (sz := s.heap.size)
  delta zQv zB
  generalize hAe : va_A [(o, .inr (8, [.ref m0, .ref m1, .ref m2, .ref m3, .ref m4, .ref m5, .ref m6, .ref m7, .ref m8, .ref m9, .ref m10, .ref m11, .ref m12, .long z13, .long z14, .int z15, .int z16, .int z17, .ref m18, .ref m19, .int z20, .ref m21, .ref m22, .ref m23, .ref m24, .ref m25, .int z26, .int z27, .int z28, .int z29, .int z30, .ref m31, .ref m32, .ref m33, .ref m34, .ref m35, .ref m36, .ref m37, .long z38, .ref m39, .ref m40, .int z41, .ref m42])), (qa, zaJ k 4 fu), (m2, zaJ k 4 f2), (m3, zaJ k 4 f3)] s.heap.size = A at hD hE ⊢
  have hA : ∀ q : Nat, s.heap.size ≤ q → A q := fun q h => by rw [← hAe]; exact Or.inr h
  have hS : va_S A s.heap s.heap [] := va_S.rf
  have hl := lv_entry [.ref o, .ref qa, .long x, .long y, .long z, .int 1] (n := 26) (Nat.le_of_ble_eq_true rfl)
  rw [lg_entry_eq]
  generalize (lg_sl [.ref o, .ref qa, .long x, .long y, .long z, .int 1] ++ List.replicate (26 - (lg_sl [.ref o, .ref qa, .long x, .long y, .long z, .int 1]).length) Slot.unset).toArray = ls at hl ⊢
  have hl : lv_has ls 26 [(0, .ref o), (1, .ref qa), (2, .long x), (4, .long y), (6, .long z), (8, .int 1)] := hl
  have hl113 : (Cond.constantLong RX9 113 (268435456)).before #[Value.ref o, Value.ref qa, Value.long x, Value.long y, Value.long z, Value.int 1] s = true := zw hts 1 rfl
  have hl16 : (Cond.fieldLink RX9 16 "InertialReferenceModel" "small" "[J").before #[Value.ref o, Value.ref qa, Value.long x, Value.long y, Value.long z, Value.int 1] s = true := zw hts 3 rfl
  have hinX9 : ∀ w ∈ u_ws RX9 TX9 43, w ∈ wsX9_turn := fun w h => List.mem_cons_of_mem _ (List.mem_append_right _ h)
  have hl19 : (Cond.fieldLink RX9 19 "InertialReferenceModel" "product" "[J").before #[Value.ref o, Value.ref qa, Value.long x, Value.long y, Value.long z, Value.int 1] s = true := zw hts 4 rfl
  refine lv_lload_n hx hb dX9_turn_0 rfl (lv_at hl 2 rfl) ?_
  refine lv_iconst (v := 1) hx hb dX9_turn_1 (by decide) ?_
  refine lv_lshr (v := sar x 1) hx hb dX9_turn_2 rfl ?_
  refine lv_lstore (lv' := [(9, .long (sar x 1)), (0, .ref o), (1, .ref qa), (2, .long x), (4, .long y), (6, .long z), (8, .int 1)]) hx hb dX9_turn_3 hl (by decide) rfl (fun ls hl => ?_)
  refine lv_lload hx hb dX9_turn_5 (lv_at hl 4 rfl) ?_
  refine lv_iconst (v := 1) hx hb dX9_turn_7 (by decide) ?_
  refine lv_lshr (v := sar y 1) hx hb dX9_turn_8 rfl ?_
  refine lv_lstore (lv' := [(11, .long (sar y 1)), (9, .long (sar x 1)), (0, .ref o), (1, .ref qa), (2, .long x), (4, .long y), (6, .long z), (8, .int 1)]) hx hb dX9_turn_9 hl (by decide) rfl (fun ls hl => ?_)
  refine lv_lload hx hb dX9_turn_11 (lv_at hl 6 rfl) ?_
  refine lv_iconst (v := 1) hx hb dX9_turn_13 (by decide) ?_
  refine lv_lshr (v := sar z 1) hx hb dX9_turn_14 rfl ?_
  refine lv_lstore (lv' := [(13, .long (sar z 1)), (11, .long (sar y 1)), (9, .long (sar x 1)), (0, .ref o), (1, .ref qa), (2, .long x), (4, .long y), (6, .long z), (8, .int 1)]) hx hb dX9_turn_15 hl (by decide) rfl (fun ls hl => ?_)
  refine lv_lload hx hb dX9_turn_17 (lv_at hl 2 rfl) ?_
  refine lv_lload hx hb dX9_turn_19 (lv_at hl 2 rfl) ?_
  refine lv_lmul hx hb dX9_turn_21 ?_
  refine lv_lload hx hb dX9_turn_22 (lv_at hl 1 rfl) ?_
  refine lv_lload hx hb dX9_turn_24 (lv_at hl 1 rfl) ?_
  refine lv_lmul hx hb dX9_turn_26 ?_
  refine lv_ladd hx hb dX9_turn_27 ?_
  refine lv_lload hx hb dX9_turn_28 (lv_at hl 0 rfl) ?_
  refine lv_lload hx hb dX9_turn_30 (lv_at hl 0 rfl) ?_
  refine lv_lmul hx hb dX9_turn_32 ?_
  refine lv_ladd hx hb dX9_turn_33 ?_
  refine lv_bipush (v := 28) hx hb dX9_turn_34 (by decide) ?_
  refine lv_lshr (v := sar ((((sar x 1) * (sar x 1)) + ((sar y 1) * (sar y 1))) + ((sar z 1) * (sar z 1))) 28) hx hb dX9_turn_36 rfl ?_
  refine lv_lstore (lv' := [(15, .long (sar ((((sar x 1) * (sar x 1)) + ((sar y 1) * (sar y 1))) + ((sar z 1) * (sar z 1))) 28)), (13, .long (sar z 1)), (11, .long (sar y 1)), (9, .long (sar x 1)), (0, .ref o), (1, .ref qa), (2, .long x), (4, .long y), (6, .long z), (8, .int 1)]) hx hb dX9_turn_37 hl (by decide) rfl (fun ls hl => ?_)
  refine lv_iload hx hb dX9_turn_39 (lv_at hl 9 rfl) ?_
  refine lv_if_eq (tgt := 50) hx hb dX9_turn_41 (by decide) (fun c => absurd c (by decide)) (fun _ => ?_)
  refine lv_ldc2 hx hb hown hl113 dX9_turn_44 ?_
  refine lv_goto (tgt := 58) hx hb dX9_turn_47 (by decide) ?_
  refine lv_lstore (lv' := [(17, .long 268435456), (15, .long (sar ((((sar x 1) * (sar x 1)) + ((sar y 1) * (sar y 1))) + ((sar z 1) * (sar z 1))) 28)), (13, .long (sar z 1)), (11, .long (sar y 1)), (9, .long (sar x 1)), (0, .ref o), (1, .ref qa), (2, .long x), (4, .long y), (6, .long z), (8, .int 1)]) hx hb dX9_turn_58 hl (by decide) rfl (fun ls hl => ?_)
  refine lv_iload hx hb dX9_turn_60 (lv_at hl 10 rfl) ?_
  refine lv_if_eq (tgt := 71) hx hb dX9_turn_62 (by decide) (fun c => absurd c (by decide)) (fun _ => ?_)
  refine lv_ldc2 hx hb hown hl113 dX9_turn_65 ?_
  refine lv_goto (tgt := 83) hx hb dX9_turn_68 (by decide) ?_
  refine lv_lstore (lv' := [(19, .long 268435456), (17, .long 268435456), (15, .long (sar ((((sar x 1) * (sar x 1)) + ((sar y 1) * (sar y 1))) + ((sar z 1) * (sar z 1))) 28)), (13, .long (sar z 1)), (11, .long (sar y 1)), (9, .long (sar x 1)), (0, .ref o), (1, .ref qa), (2, .long x), (4, .long y), (6, .long z), (8, .int 1)]) hx hb dX9_turn_83 hl (by decide) rfl (fun ls hl => ?_)
  refine lv_aload_n hx hb dX9_turn_85 rfl (lv_at hl 6 rfl) ?_
  refine va_get (D := D) (ci := 8) (v := .ref m2) (C := RX9) (T := TX9) (N := 43) hx hb hts hinX9 hown hK hP 0 rfl rfl 2 (Nat.le_of_ble_eq_true rfl) hl16 (fun _ h9 => h9) rfl dX9_turn_86 ?_
  refine lv_iconst (v := 0) hx hb dX9_turn_89 (by decide) ?_
  refine lv_lload hx hb dX9_turn_90 (lv_at hl 1 rfl) ?_
  refine z_last hx hb hK hP hD hS 2 rfl 0 zx0 (by decide) (ws' := [(o, .inr (8, [.ref m0, .ref m1, .ref m2, .ref m3, .ref m4, .ref m5, .ref m6, .ref m7, .ref m8, .ref m9, .ref m10, .ref m11, .ref m12, .long z13, .long z14, .int z15, .int z16, .int z17, .ref m18, .ref m19, .int z20, .ref m21, .ref m22, .ref m23, .ref m24, .ref m25, .int z26, .int z27, .int z28, .int z29, .int z30, .ref m31, .ref m32, .ref m33, .ref m34, .ref m35, .ref m36, .ref m37, .long z38, .ref m39, .ref m40, .int z41, .ref m42])), (qa, zaJ k 4 fu), (m2, zaJ k 4 (vp_updL f2 0 268435456)), (m3, zaJ k 4 f3)]) rfl dX9_turn_92 (fun H locs hP hD hS => ?_)
  refine lv_aload_n hx hb dX9_turn_93 rfl (lv_at hl 6 rfl) ?_
  refine va_get (D := D) (ci := 8) (v := .ref m2) (C := RX9) (T := TX9) (N := 43) hx hb hts hinX9 hown hK hP 0 rfl rfl 2 (Nat.le_of_ble_eq_true rfl) hl16 (fun _ h9 => h9) rfl dX9_turn_94 ?_
  refine lv_iconst (v := 1) hx hb dX9_turn_97 (by decide) ?_
  refine lv_lload hx hb dX9_turn_98 (lv_at hl 5 rfl) ?_
  refine lv_lload hx hb dX9_turn_100 (lv_at hl 0 rfl) ?_
  refine lv_lmul hx hb dX9_turn_102 ?_
  refine lv_bipush (v := 28) hx hb dX9_turn_103 (by decide) ?_
  refine lv_lshr (v := sar ((sar x 1) * 268435456) 28) hx hb dX9_turn_105 rfl ?_
  refine z_last hx hb hK hP hD hS 2 rfl 1 zx1 (by decide) (ws' := [(o, .inr (8, [.ref m0, .ref m1, .ref m2, .ref m3, .ref m4, .ref m5, .ref m6, .ref m7, .ref m8, .ref m9, .ref m10, .ref m11, .ref m12, .long z13, .long z14, .int z15, .int z16, .int z17, .ref m18, .ref m19, .int z20, .ref m21, .ref m22, .ref m23, .ref m24, .ref m25, .int z26, .int z27, .int z28, .int z29, .int z30, .ref m31, .ref m32, .ref m33, .ref m34, .ref m35, .ref m36, .ref m37, .long z38, .ref m39, .ref m40, .int z41, .ref m42])), (qa, zaJ k 4 fu), (m2, zaJ k 4 (vp_updL (vp_updL f2 0 268435456) 1 (sar ((sar x 1) * 268435456) 28))), (m3, zaJ k 4 f3)]) rfl dX9_turn_106 (fun H locs hP hD hS => ?_)
  refine lv_aload_n hx hb dX9_turn_107 rfl (lv_at hl 6 rfl) ?_
  refine va_get (D := D) (ci := 8) (v := .ref m2) (C := RX9) (T := TX9) (N := 43) hx hb hts hinX9 hown hK hP 0 rfl rfl 2 (Nat.le_of_ble_eq_true rfl) hl16 (fun _ h9 => h9) rfl dX9_turn_108 ?_
  refine lv_iconst (v := 2) hx hb dX9_turn_111 (by decide) ?_
  refine lv_lload hx hb dX9_turn_112 (lv_at hl 4 rfl) ?_
  refine lv_lload hx hb dX9_turn_114 (lv_at hl 0 rfl) ?_
  refine lv_lmul hx hb dX9_turn_116 ?_
  refine lv_bipush (v := 28) hx hb dX9_turn_117 (by decide) ?_
  refine lv_lshr (v := sar ((sar y 1) * 268435456) 28) hx hb dX9_turn_119 rfl ?_
  refine z_last hx hb hK hP hD hS 2 rfl 2 zx2 (by decide) (ws' := [(o, .inr (8, [.ref m0, .ref m1, .ref m2, .ref m3, .ref m4, .ref m5, .ref m6, .ref m7, .ref m8, .ref m9, .ref m10, .ref m11, .ref m12, .long z13, .long z14, .int z15, .int z16, .int z17, .ref m18, .ref m19, .int z20, .ref m21, .ref m22, .ref m23, .ref m24, .ref m25, .int z26, .int z27, .int z28, .int z29, .int z30, .ref m31, .ref m32, .ref m33, .ref m34, .ref m35, .ref m36, .ref m37, .long z38, .ref m39, .ref m40, .int z41, .ref m42])), (qa, zaJ k 4 fu), (m2, zaJ k 4 (vp_updL (vp_updL (vp_updL f2 0 268435456) 1 (sar ((sar x 1) * 268435456) 28)) 2 (sar ((sar y 1) * 268435456) 28))), (m3, zaJ k 4 f3)]) rfl dX9_turn_120 (fun H locs hP hD hS => ?_)
  refine lv_aload_n hx hb dX9_turn_121 rfl (lv_at hl 6 rfl) ?_
  refine va_get (D := D) (ci := 8) (v := .ref m2) (C := RX9) (T := TX9) (N := 43) hx hb hts hinX9 hown hK hP 0 rfl rfl 2 (Nat.le_of_ble_eq_true rfl) hl16 (fun _ h9 => h9) rfl dX9_turn_122 ?_
  refine lv_iconst (v := 3) hx hb dX9_turn_125 (by decide) ?_
  refine lv_lload hx hb dX9_turn_126 (lv_at hl 3 rfl) ?_
  refine lv_lload hx hb dX9_turn_128 (lv_at hl 0 rfl) ?_
  refine lv_lmul hx hb dX9_turn_130 ?_
  refine lv_bipush (v := 28) hx hb dX9_turn_131 (by decide) ?_
  refine lv_lshr (v := sar ((sar z 1) * 268435456) 28) hx hb dX9_turn_133 rfl ?_
  refine z_last hx hb hK hP hD hS 2 rfl 3 zx3 (by decide) (ws' := [(o, .inr (8, [.ref m0, .ref m1, .ref m2, .ref m3, .ref m4, .ref m5, .ref m6, .ref m7, .ref m8, .ref m9, .ref m10, .ref m11, .ref m12, .long z13, .long z14, .int z15, .int z16, .int z17, .ref m18, .ref m19, .int z20, .ref m21, .ref m22, .ref m23, .ref m24, .ref m25, .int z26, .int z27, .int z28, .int z29, .int z30, .ref m31, .ref m32, .ref m33, .ref m34, .ref m35, .ref m36, .ref m37, .long z38, .ref m39, .ref m40, .int z41, .ref m42])), (qa, zaJ k 4 fu), (m2, zaJ k 4 (vp_updL (vp_updL (vp_updL (vp_updL f2 0 268435456) 1 (sar ((sar x 1) * 268435456) 28)) 2 (sar ((sar y 1) * 268435456) 28)) 3 (sar ((sar z 1) * 268435456) 28))), (m3, zaJ k 4 f3)]) rfl dX9_turn_134 (fun H locs hP hD hS => ?_)
  refine lv_aload_n hx hb dX9_turn_135 rfl (lv_at hl 6 rfl) ?_
  refine lv_aload_n hx hb dX9_turn_136 rfl (lv_at hl 7 rfl) ?_
  refine lv_aload_n hx hb dX9_turn_137 rfl (lv_at hl 6 rfl) ?_
  refine va_get (D := D) (ci := 8) (v := .ref m2) (C := RX9) (T := TX9) (N := 43) hx hb hts hinX9 hown hK hP 0 rfl rfl 2 (Nat.le_of_ble_eq_true rfl) hl16 (fun _ h9 => h9) rfl dX9_turn_138 ?_
  refine z_callv0 (wc := [(o, .inr (8, [.ref m0, .ref m1, .ref m2, .ref m3, .ref m4, .ref m5, .ref m6, .ref m7, .ref m8, .ref m9, .ref m10, .ref m11, .ref m12, .long z13, .long z14, .int z15, .int z16, .int z17, .ref m18, .ref m19, .int z20, .ref m21, .ref m22, .ref m23, .ref m24, .ref m25, .int z26, .int z27, .int z28, .int z29, .int z30, .ref m31, .ref m32, .ref m33, .ref m34, .ref m35, .ref m36, .ref m37, .long z38, .ref m39, .ref m40, .int z41, .ref m42])), (qa, zaJ k 4 fu), (m2, zaJ k 4 (vp_updL (vp_updL (vp_updL (vp_updL f2 0 268435456) 1 (sar ((sar x 1) * 268435456) 28)) 2 (sar ((sar y 1) * 268435456) 28)) 3 (sar ((sar z 1) * 268435456) 28))), (m3, zaJ k 4 f3)]) (wr := []) (va_runV (As := [.ref qa, .ref m2]) (rest := []) ⟨hx, hb, hml, hown, hts⟩ (c_X9_multiply l D k H.size o m0 m1 m2 m3 m4 m5 m6 m7 m8 m9 m10 m11 m12 m18 m19 m21 m22 m23 m24 m25 m31 m32 m33 m34 m35 m36 m37 m39 m40 m42 z13 z14 z38 z15 z16 z17 z20 z26 z27 z28 z29 z30 z41 qa m2 fu (vp_updL (vp_updL (vp_updL (vp_updL f2 0 268435456) 1 (sar ((sar x 1) * 268435456) 28)) 2 (sar ((sar y 1) * 268435456) 28)) 3 (sar ((sar z 1) * 268435456) 28)) f3) (cwV 2 hts gX9_turn_X9_multiply rfl rfl rfl (by decide +kernel) ⟨Nat.le_of_ble_eq_true rfl, Nat.le_of_ble_eq_true rfl⟩) (z_preV (wc := [(o, .inr (8, [.ref m0, .ref m1, .ref m2, .ref m3, .ref m4, .ref m5, .ref m6, .ref m7, .ref m8, .ref m9, .ref m10, .ref m11, .ref m12, .long z13, .long z14, .int z15, .int z16, .int z17, .ref m18, .ref m19, .int z20, .ref m21, .ref m22, .ref m23, .ref m24, .ref m25, .int z26, .int z27, .int z28, .int z29, .int z30, .ref m31, .ref m32, .ref m33, .ref m34, .ref m35, .ref m36, .ref m37, .long z38, .ref m39, .ref m40, .int z41, .ref m42])), (qa, zaJ k 4 fu), (m2, zaJ k 4 (vp_updL (vp_updL (vp_updL (vp_updL f2 0 268435456) 1 (sar ((sar x 1) * 268435456) 28)) 2 (sar ((sar y 1) * 268435456) 28)) 3 (sar ((sar z 1) * 268435456) 28))), (m3, zaJ k 4 f3)]) 0 8 hP hD hK [0, 1, 2, 3] rfl rfl rfl rfl zb0 zp0) rfl rfl hl.1 rfl (lv_room (Nat.le_of_ble_eq_true rfl)) dX9_turn_141 ⟨Nat.zero_le _, Nat.zero_le _⟩) hP hD hS hA [0, 1, 2, 3] [] rfl rfl rfl (by decide) (fun w H locs hF hP hD hS => ?_)
  subst hF
  have hP : va_P D vwCl [(o, .inr (8, [.ref m0, .ref m1, .ref m2, .ref m3, .ref m4, .ref m5, .ref m6, .ref m7, .ref m8, .ref m9, .ref m10, .ref m11, .ref m12, .long z13, .long z14, .int z15, .int z16, .int z17, .ref m18, .ref m19, .int z20, .ref m21, .ref m22, .ref m23, .ref m24, .ref m25, .int z26, .int z27, .int z28, .int z29, .int z30, .ref m31, .ref m32, .ref m33, .ref m34, .ref m35, .ref m36, .ref m37, .long z38, .ref m39, .ref m40, .int z41, .ref m42])), (qa, zaJ k 4 fu), (m2, zaJ k 4 (vp_updL (vp_updL (vp_updL (vp_updL f2 0 268435456) 1 (sar ((sar x 1) * 268435456) 28)) 2 (sar ((sar y 1) * 268435456) 28)) 3 (sar ((sar z 1) * 268435456) 28))), (m3, zaJ k 4 (qmul fu (vp_updL (vp_updL (vp_updL (vp_updL f2 0 268435456) 1 (sar ((sar x 1) * 268435456) 28)) 2 (sar ((sar y 1) * 268435456) 28)) 3 (sar ((sar z 1) * 268435456) 28))))] H := hP
  have hD : va_D A [(o, .inr (8, [.ref m0, .ref m1, .ref m2, .ref m3, .ref m4, .ref m5, .ref m6, .ref m7, .ref m8, .ref m9, .ref m10, .ref m11, .ref m12, .long z13, .long z14, .int z15, .int z16, .int z17, .ref m18, .ref m19, .int z20, .ref m21, .ref m22, .ref m23, .ref m24, .ref m25, .int z26, .int z27, .int z28, .int z29, .int z30, .ref m31, .ref m32, .ref m33, .ref m34, .ref m35, .ref m36, .ref m37, .long z38, .ref m39, .ref m40, .int z41, .ref m42])), (qa, zaJ k 4 fu), (m2, zaJ k 4 (vp_updL (vp_updL (vp_updL (vp_updL f2 0 268435456) 1 (sar ((sar x 1) * 268435456) 28)) 2 (sar ((sar y 1) * 268435456) 28)) 3 (sar ((sar z 1) * 268435456) 28))), (m3, zaJ k 4 (qmul fu (vp_updL (vp_updL (vp_updL (vp_updL f2 0 268435456) 1 (sar ((sar x 1) * 268435456) 28)) 2 (sar ((sar y 1) * 268435456) 28)) 3 (sar ((sar z 1) * 268435456) 28))))] := hD
  refine lv_aload_n hx hb dX9_turn_144 rfl (lv_at hl 6 rfl) ?_
  refine va_get (D := D) (ci := 8) (v := .ref m3) (C := RX9) (T := TX9) (N := 43) hx hb hts hinX9 hown hK hP 0 rfl rfl 3 (Nat.le_of_ble_eq_true rfl) hl19 (fun _ h9 => h9) rfl dX9_turn_145 ?_
  refine lv_iconst (v := 0) hx hb dX9_turn_148 (by decide) ?_
  refine z_lald hx hb hK hP 3 rfl 0 zx0 (by decide) (v := (qmul fu (vp_updL (vp_updL (vp_updL (vp_updL f2 0 268435456) 1 (sar ((sar x 1) * 268435456) 28)) 2 (sar ((sar y 1) * 268435456) 28)) 3 (sar ((sar z 1) * 268435456) 28))) 0) rfl dX9_turn_149 ?_
  refine lv_aload_n hx hb dX9_turn_150 rfl (lv_at hl 6 rfl) ?_
  refine va_get (D := D) (ci := 8) (v := .ref m3) (C := RX9) (T := TX9) (N := 43) hx hb hts hinX9 hown hK hP 0 rfl rfl 3 (Nat.le_of_ble_eq_true rfl) hl19 (fun _ h9 => h9) rfl dX9_turn_151 ?_
  refine lv_iconst (v := 0) hx hb dX9_turn_154 (by decide) ?_
  refine z_lald hx hb hK hP 3 rfl 0 zx0 (by decide) (v := (qmul fu (vp_updL (vp_updL (vp_updL (vp_updL f2 0 268435456) 1 (sar ((sar x 1) * 268435456) 28)) 2 (sar ((sar y 1) * 268435456) 28)) 3 (sar ((sar z 1) * 268435456) 28))) 0) rfl dX9_turn_155 ?_
  refine lv_lmul hx hb dX9_turn_156 ?_
  refine lv_aload_n hx hb dX9_turn_157 rfl (lv_at hl 6 rfl) ?_
  refine va_get (D := D) (ci := 8) (v := .ref m3) (C := RX9) (T := TX9) (N := 43) hx hb hts hinX9 hown hK hP 0 rfl rfl 3 (Nat.le_of_ble_eq_true rfl) hl19 (fun _ h9 => h9) rfl dX9_turn_158 ?_
  refine lv_iconst (v := 1) hx hb dX9_turn_161 (by decide) ?_
  refine z_lald hx hb hK hP 3 rfl 1 zx1 (by decide) (v := (qmul fu (vp_updL (vp_updL (vp_updL (vp_updL f2 0 268435456) 1 (sar ((sar x 1) * 268435456) 28)) 2 (sar ((sar y 1) * 268435456) 28)) 3 (sar ((sar z 1) * 268435456) 28))) 1) rfl dX9_turn_162 ?_
  refine lv_aload_n hx hb dX9_turn_163 rfl (lv_at hl 6 rfl) ?_
  refine va_get (D := D) (ci := 8) (v := .ref m3) (C := RX9) (T := TX9) (N := 43) hx hb hts hinX9 hown hK hP 0 rfl rfl 3 (Nat.le_of_ble_eq_true rfl) hl19 (fun _ h9 => h9) rfl dX9_turn_164 ?_
  refine lv_iconst (v := 1) hx hb dX9_turn_167 (by decide) ?_
  refine z_lald hx hb hK hP 3 rfl 1 zx1 (by decide) (v := (qmul fu (vp_updL (vp_updL (vp_updL (vp_updL f2 0 268435456) 1 (sar ((sar x 1) * 268435456) 28)) 2 (sar ((sar y 1) * 268435456) 28)) 3 (sar ((sar z 1) * 268435456) 28))) 1) rfl dX9_turn_168 ?_
  refine lv_lmul hx hb dX9_turn_169 ?_
  refine lv_ladd hx hb dX9_turn_170 ?_
  refine lv_aload_n hx hb dX9_turn_171 rfl (lv_at hl 6 rfl) ?_
  refine va_get (D := D) (ci := 8) (v := .ref m3) (C := RX9) (T := TX9) (N := 43) hx hb hts hinX9 hown hK hP 0 rfl rfl 3 (Nat.le_of_ble_eq_true rfl) hl19 (fun _ h9 => h9) rfl dX9_turn_172 ?_
  refine lv_iconst (v := 2) hx hb dX9_turn_175 (by decide) ?_
  refine z_lald hx hb hK hP 3 rfl 2 zx2 (by decide) (v := (qmul fu (vp_updL (vp_updL (vp_updL (vp_updL f2 0 268435456) 1 (sar ((sar x 1) * 268435456) 28)) 2 (sar ((sar y 1) * 268435456) 28)) 3 (sar ((sar z 1) * 268435456) 28))) 2) rfl dX9_turn_176 ?_
  refine lv_aload_n hx hb dX9_turn_177 rfl (lv_at hl 6 rfl) ?_
  refine va_get (D := D) (ci := 8) (v := .ref m3) (C := RX9) (T := TX9) (N := 43) hx hb hts hinX9 hown hK hP 0 rfl rfl 3 (Nat.le_of_ble_eq_true rfl) hl19 (fun _ h9 => h9) rfl dX9_turn_178 ?_
  refine lv_iconst (v := 2) hx hb dX9_turn_181 (by decide) ?_
  refine z_lald hx hb hK hP 3 rfl 2 zx2 (by decide) (v := (qmul fu (vp_updL (vp_updL (vp_updL (vp_updL f2 0 268435456) 1 (sar ((sar x 1) * 268435456) 28)) 2 (sar ((sar y 1) * 268435456) 28)) 3 (sar ((sar z 1) * 268435456) 28))) 2) rfl dX9_turn_182 ?_
  refine lv_lmul hx hb dX9_turn_183 ?_
  refine lv_ladd hx hb dX9_turn_184 ?_
  refine lv_aload_n hx hb dX9_turn_185 rfl (lv_at hl 6 rfl) ?_
  refine va_get (D := D) (ci := 8) (v := .ref m3) (C := RX9) (T := TX9) (N := 43) hx hb hts hinX9 hown hK hP 0 rfl rfl 3 (Nat.le_of_ble_eq_true rfl) hl19 (fun _ h9 => h9) rfl dX9_turn_186 ?_
  refine lv_iconst (v := 3) hx hb dX9_turn_189 (by decide) ?_
  refine z_lald hx hb hK hP 3 rfl 3 zx3 (by decide) (v := (qmul fu (vp_updL (vp_updL (vp_updL (vp_updL f2 0 268435456) 1 (sar ((sar x 1) * 268435456) 28)) 2 (sar ((sar y 1) * 268435456) 28)) 3 (sar ((sar z 1) * 268435456) 28))) 3) rfl dX9_turn_190 ?_
  refine lv_aload_n hx hb dX9_turn_191 rfl (lv_at hl 6 rfl) ?_
  refine va_get (D := D) (ci := 8) (v := .ref m3) (C := RX9) (T := TX9) (N := 43) hx hb hts hinX9 hown hK hP 0 rfl rfl 3 (Nat.le_of_ble_eq_true rfl) hl19 (fun _ h9 => h9) rfl dX9_turn_192 ?_
  refine lv_iconst (v := 3) hx hb dX9_turn_195 (by decide) ?_
  refine z_lald hx hb hK hP 3 rfl 3 zx3 (by decide) (v := (qmul fu (vp_updL (vp_updL (vp_updL (vp_updL f2 0 268435456) 1 (sar ((sar x 1) * 268435456) 28)) 2 (sar ((sar y 1) * 268435456) 28)) 3 (sar ((sar z 1) * 268435456) 28))) 3) rfl dX9_turn_196 ?_
  refine lv_lmul hx hb dX9_turn_197 ?_
  refine lv_ladd hx hb dX9_turn_198 ?_
  refine lv_bipush (v := 28) hx hb dX9_turn_199 (by decide) ?_
  refine lv_lshr (v := sar ((((((qmul fu (vp_updL (vp_updL (vp_updL (vp_updL f2 0 268435456) 1 (sar ((sar x 1) * 268435456) 28)) 2 (sar ((sar y 1) * 268435456) 28)) 3 (sar ((sar z 1) * 268435456) 28))) 0) * ((qmul fu (vp_updL (vp_updL (vp_updL (vp_updL f2 0 268435456) 1 (sar ((sar x 1) * 268435456) 28)) 2 (sar ((sar y 1) * 268435456) 28)) 3 (sar ((sar z 1) * 268435456) 28))) 0)) + (((qmul fu (vp_updL (vp_updL (vp_updL (vp_updL f2 0 268435456) 1 (sar ((sar x 1) * 268435456) 28)) 2 (sar ((sar y 1) * 268435456) 28)) 3 (sar ((sar z 1) * 268435456) 28))) 1) * ((qmul fu (vp_updL (vp_updL (vp_updL (vp_updL f2 0 268435456) 1 (sar ((sar x 1) * 268435456) 28)) 2 (sar ((sar y 1) * 268435456) 28)) 3 (sar ((sar z 1) * 268435456) 28))) 1))) + (((qmul fu (vp_updL (vp_updL (vp_updL (vp_updL f2 0 268435456) 1 (sar ((sar x 1) * 268435456) 28)) 2 (sar ((sar y 1) * 268435456) 28)) 3 (sar ((sar z 1) * 268435456) 28))) 2) * ((qmul fu (vp_updL (vp_updL (vp_updL (vp_updL f2 0 268435456) 1 (sar ((sar x 1) * 268435456) 28)) 2 (sar ((sar y 1) * 268435456) 28)) 3 (sar ((sar z 1) * 268435456) 28))) 2))) + (((qmul fu (vp_updL (vp_updL (vp_updL (vp_updL f2 0 268435456) 1 (sar ((sar x 1) * 268435456) 28)) 2 (sar ((sar y 1) * 268435456) 28)) 3 (sar ((sar z 1) * 268435456) 28))) 3) * ((qmul fu (vp_updL (vp_updL (vp_updL (vp_updL f2 0 268435456) 1 (sar ((sar x 1) * 268435456) 28)) 2 (sar ((sar y 1) * 268435456) 28)) 3 (sar ((sar z 1) * 268435456) 28))) 3))) 28) hx hb dX9_turn_201 rfl ?_
  refine lv_topl (fun x_1 ex_1 => ?_)
  refine lv_lstore (lv' := [(21, .long x_1), (19, .long 268435456), (17, .long 268435456), (15, .long (sar ((((sar x 1) * (sar x 1)) + ((sar y 1) * (sar y 1))) + ((sar z 1) * (sar z 1))) 28)), (13, .long (sar z 1)), (11, .long (sar y 1)), (9, .long (sar x 1)), (0, .ref o), (1, .ref qa), (2, .long x), (4, .long y), (6, .long z), (8, .int 1)]) hx hb dX9_turn_202 hl (by decide) rfl (fun ls hl => ?_)
  refine lv_ldc2 hx hb hown hl113 dX9_turn_204 ?_
  refine lv_ldc2 hx hb hown hl113 dX9_turn_207 ?_
  refine lv_lload hx hb dX9_turn_210 (lv_at hl 0 rfl) ?_
  refine lv_lsub hx hb dX9_turn_212 ?_
  refine lv_iconst (v := 1) hx hb dX9_turn_213 (by decide) ?_
  refine lv_lshr (v := sar (268435456 - x_1) 1) hx hb dX9_turn_214 rfl ?_
  refine lv_ladd hx hb dX9_turn_215 ?_
  refine lv_lstore (lv' := [(23, .long (268435456 + (sar (268435456 - x_1) 1))), (21, .long x_1), (19, .long 268435456), (17, .long 268435456), (15, .long (sar ((((sar x 1) * (sar x 1)) + ((sar y 1) * (sar y 1))) + ((sar z 1) * (sar z 1))) 28)), (13, .long (sar z 1)), (11, .long (sar y 1)), (9, .long (sar x 1)), (0, .ref o), (1, .ref qa), (2, .long x), (4, .long y), (6, .long z), (8, .int 1)]) hx hb dX9_turn_216 hl (by decide) rfl (fun ls hl => ?_)
  refine lv_iconst (v := 0) hx hb dX9_turn_218 (by decide) ?_
  refine lv_istore (lv' := [(25, .int 0), (23, .long (268435456 + (sar (268435456 - x_1) 1))), (21, .long x_1), (19, .long 268435456), (17, .long 268435456), (15, .long (sar ((((sar x 1) * (sar x 1)) + ((sar y 1) * (sar y 1))) + ((sar z 1) * (sar z 1))) 28)), (13, .long (sar z 1)), (11, .long (sar y 1)), (9, .long (sar x 1)), (0, .ref o), (1, .ref qa), (2, .long x), (4, .long y), (6, .long z), (8, .int 1)]) hx hb dX9_turn_219 hl (by decide) rfl (fun ls hl => ?_)
  refine lv_iload hx hb dX9_turn_221 (lv_at hl 0 rfl) ?_
  refine lv_iconst (v := 4) hx hb dX9_turn_223 (by decide) ?_
  refine lv_icmp_ge (tgt := 250) hx hb dX9_turn_224 (by decide) (fun c => absurd c (by decide)) (fun _ => ?_)
  refine lv_aload_n hx hb dX9_turn_227 rfl (lv_at hl 10 rfl) ?_
  refine lv_iload hx hb dX9_turn_228 (lv_at hl 0 rfl) ?_
  refine lv_aload_n hx hb dX9_turn_230 rfl (lv_at hl 9 rfl) ?_
  refine va_get (D := D) (ci := 8) (v := .ref m3) (C := RX9) (T := TX9) (N := 43) hx hb hts hinX9 hown hK hP 0 rfl rfl 3 (Nat.le_of_ble_eq_true rfl) hl19 (fun _ h9 => h9) rfl dX9_turn_231 ?_
  refine lv_iload hx hb dX9_turn_234 (lv_at hl 0 rfl) ?_
  refine z_lald hx hb hK hP 3 rfl 0 zx0 (by decide) (v := (qmul fu (vp_updL (vp_updL (vp_updL (vp_updL f2 0 268435456) 1 (sar ((sar x 1) * 268435456) 28)) 2 (sar ((sar y 1) * 268435456) 28)) 3 (sar ((sar z 1) * 268435456) 28))) 0) rfl dX9_turn_236 ?_
  refine lv_lload hx hb dX9_turn_237 (lv_at hl 1 rfl) ?_
  refine lv_lmul hx hb dX9_turn_239 ?_
  refine lv_bipush (v := 28) hx hb dX9_turn_240 (by decide) ?_
  refine lv_lshr (v := sar (((qmul fu (vp_updL (vp_updL (vp_updL (vp_updL f2 0 268435456) 1 (sar ((sar x 1) * 268435456) 28)) 2 (sar ((sar y 1) * 268435456) 28)) 3 (sar ((sar z 1) * 268435456) 28))) 0) * (268435456 + (sar (268435456 - x_1) 1))) 28) hx hb dX9_turn_242 rfl ?_
  refine lv_topl (fun x_2 ex_2 => ?_)
  refine z_last hx hb hK hP hD hS 1 rfl 0 zx0 (by decide) (ws' := [(o, .inr (8, [.ref m0, .ref m1, .ref m2, .ref m3, .ref m4, .ref m5, .ref m6, .ref m7, .ref m8, .ref m9, .ref m10, .ref m11, .ref m12, .long z13, .long z14, .int z15, .int z16, .int z17, .ref m18, .ref m19, .int z20, .ref m21, .ref m22, .ref m23, .ref m24, .ref m25, .int z26, .int z27, .int z28, .int z29, .int z30, .ref m31, .ref m32, .ref m33, .ref m34, .ref m35, .ref m36, .ref m37, .long z38, .ref m39, .ref m40, .int z41, .ref m42])), (qa, zaJ k 4 (vp_updL fu 0 x_2)), (m2, zaJ k 4 (vp_updL (vp_updL (vp_updL (vp_updL f2 0 268435456) 1 (sar ((sar x 1) * 268435456) 28)) 2 (sar ((sar y 1) * 268435456) 28)) 3 (sar ((sar z 1) * 268435456) 28))), (m3, zaJ k 4 (qmul fu (vp_updL (vp_updL (vp_updL (vp_updL f2 0 268435456) 1 (sar ((sar x 1) * 268435456) 28)) 2 (sar ((sar y 1) * 268435456) 28)) 3 (sar ((sar z 1) * 268435456) 28))))]) rfl dX9_turn_243 (fun H locs hP hD hS => ?_)
  refine lv_iinc (v := 1) (lv' := [(25, .int 1), (23, .long (268435456 + (sar (268435456 - x_1) 1))), (21, .long x_1), (19, .long 268435456), (17, .long 268435456), (15, .long (sar ((((sar x 1) * (sar x 1)) + ((sar y 1) * (sar y 1))) + ((sar z 1) * (sar z 1))) 28)), (13, .long (sar z 1)), (11, .long (sar y 1)), (9, .long (sar x 1)), (0, .ref o), (1, .ref qa), (2, .long x), (4, .long y), (6, .long z), (8, .int 1)]) hx hb dX9_turn_244 hl (k := 0) rfl (by decide) (by decide) rfl (fun ls hl => ?_)
  refine lv_goto (tgt := 221) hx hb dX9_turn_247 (by decide) ?_
  refine lv_iload hx hb dX9_turn_221 (lv_at hl 0 rfl) ?_
  refine lv_iconst (v := 4) hx hb dX9_turn_223 (by decide) ?_
  refine lv_icmp_ge (tgt := 250) hx hb dX9_turn_224 (by decide) (fun c => absurd c (by decide)) (fun _ => ?_)
  refine lv_aload_n hx hb dX9_turn_227 rfl (lv_at hl 10 rfl) ?_
  refine lv_iload hx hb dX9_turn_228 (lv_at hl 0 rfl) ?_
  refine lv_aload_n hx hb dX9_turn_230 rfl (lv_at hl 9 rfl) ?_
  refine va_get (D := D) (ci := 8) (v := .ref m3) (C := RX9) (T := TX9) (N := 43) hx hb hts hinX9 hown hK hP 0 rfl rfl 3 (Nat.le_of_ble_eq_true rfl) hl19 (fun _ h9 => h9) rfl dX9_turn_231 ?_
  refine lv_iload hx hb dX9_turn_234 (lv_at hl 0 rfl) ?_
  refine z_lald hx hb hK hP 3 rfl 1 zx1 (by decide) (v := (qmul fu (vp_updL (vp_updL (vp_updL (vp_updL f2 0 268435456) 1 (sar ((sar x 1) * 268435456) 28)) 2 (sar ((sar y 1) * 268435456) 28)) 3 (sar ((sar z 1) * 268435456) 28))) 1) rfl dX9_turn_236 ?_
  refine lv_lload hx hb dX9_turn_237 (lv_at hl 1 rfl) ?_
  refine lv_lmul hx hb dX9_turn_239 ?_
  refine lv_bipush (v := 28) hx hb dX9_turn_240 (by decide) ?_
  refine lv_lshr (v := sar (((qmul fu (vp_updL (vp_updL (vp_updL (vp_updL f2 0 268435456) 1 (sar ((sar x 1) * 268435456) 28)) 2 (sar ((sar y 1) * 268435456) 28)) 3 (sar ((sar z 1) * 268435456) 28))) 1) * (268435456 + (sar (268435456 - x_1) 1))) 28) hx hb dX9_turn_242 rfl ?_
  refine lv_topl (fun x_3 ex_3 => ?_)
  refine z_last hx hb hK hP hD hS 1 rfl 1 zx1 (by decide) (ws' := [(o, .inr (8, [.ref m0, .ref m1, .ref m2, .ref m3, .ref m4, .ref m5, .ref m6, .ref m7, .ref m8, .ref m9, .ref m10, .ref m11, .ref m12, .long z13, .long z14, .int z15, .int z16, .int z17, .ref m18, .ref m19, .int z20, .ref m21, .ref m22, .ref m23, .ref m24, .ref m25, .int z26, .int z27, .int z28, .int z29, .int z30, .ref m31, .ref m32, .ref m33, .ref m34, .ref m35, .ref m36, .ref m37, .long z38, .ref m39, .ref m40, .int z41, .ref m42])), (qa, zaJ k 4 (vp_updL (vp_updL fu 0 x_2) 1 x_3)), (m2, zaJ k 4 (vp_updL (vp_updL (vp_updL (vp_updL f2 0 268435456) 1 (sar ((sar x 1) * 268435456) 28)) 2 (sar ((sar y 1) * 268435456) 28)) 3 (sar ((sar z 1) * 268435456) 28))), (m3, zaJ k 4 (qmul fu (vp_updL (vp_updL (vp_updL (vp_updL f2 0 268435456) 1 (sar ((sar x 1) * 268435456) 28)) 2 (sar ((sar y 1) * 268435456) 28)) 3 (sar ((sar z 1) * 268435456) 28))))]) rfl dX9_turn_243 (fun H locs hP hD hS => ?_)
  refine lv_iinc (v := 2) (lv' := [(25, .int 2), (23, .long (268435456 + (sar (268435456 - x_1) 1))), (21, .long x_1), (19, .long 268435456), (17, .long 268435456), (15, .long (sar ((((sar x 1) * (sar x 1)) + ((sar y 1) * (sar y 1))) + ((sar z 1) * (sar z 1))) 28)), (13, .long (sar z 1)), (11, .long (sar y 1)), (9, .long (sar x 1)), (0, .ref o), (1, .ref qa), (2, .long x), (4, .long y), (6, .long z), (8, .int 1)]) hx hb dX9_turn_244 hl (k := 0) rfl (by decide) (by decide) rfl (fun ls hl => ?_)
  refine lv_goto (tgt := 221) hx hb dX9_turn_247 (by decide) ?_
  refine lv_iload hx hb dX9_turn_221 (lv_at hl 0 rfl) ?_
  refine lv_iconst (v := 4) hx hb dX9_turn_223 (by decide) ?_
  refine lv_icmp_ge (tgt := 250) hx hb dX9_turn_224 (by decide) (fun c => absurd c (by decide)) (fun _ => ?_)
  refine lv_aload_n hx hb dX9_turn_227 rfl (lv_at hl 10 rfl) ?_
  refine lv_iload hx hb dX9_turn_228 (lv_at hl 0 rfl) ?_
  refine lv_aload_n hx hb dX9_turn_230 rfl (lv_at hl 9 rfl) ?_
  refine va_get (D := D) (ci := 8) (v := .ref m3) (C := RX9) (T := TX9) (N := 43) hx hb hts hinX9 hown hK hP 0 rfl rfl 3 (Nat.le_of_ble_eq_true rfl) hl19 (fun _ h9 => h9) rfl dX9_turn_231 ?_
  refine lv_iload hx hb dX9_turn_234 (lv_at hl 0 rfl) ?_
  refine z_lald hx hb hK hP 3 rfl 2 zx2 (by decide) (v := (qmul fu (vp_updL (vp_updL (vp_updL (vp_updL f2 0 268435456) 1 (sar ((sar x 1) * 268435456) 28)) 2 (sar ((sar y 1) * 268435456) 28)) 3 (sar ((sar z 1) * 268435456) 28))) 2) rfl dX9_turn_236 ?_
  refine lv_lload hx hb dX9_turn_237 (lv_at hl 1 rfl) ?_
  refine lv_lmul hx hb dX9_turn_239 ?_
  refine lv_bipush (v := 28) hx hb dX9_turn_240 (by decide) ?_
  refine lv_lshr (v := sar (((qmul fu (vp_updL (vp_updL (vp_updL (vp_updL f2 0 268435456) 1 (sar ((sar x 1) * 268435456) 28)) 2 (sar ((sar y 1) * 268435456) 28)) 3 (sar ((sar z 1) * 268435456) 28))) 2) * (268435456 + (sar (268435456 - x_1) 1))) 28) hx hb dX9_turn_242 rfl ?_
  refine lv_topl (fun x_4 ex_4 => ?_)
  refine z_last hx hb hK hP hD hS 1 rfl 2 zx2 (by decide) (ws' := [(o, .inr (8, [.ref m0, .ref m1, .ref m2, .ref m3, .ref m4, .ref m5, .ref m6, .ref m7, .ref m8, .ref m9, .ref m10, .ref m11, .ref m12, .long z13, .long z14, .int z15, .int z16, .int z17, .ref m18, .ref m19, .int z20, .ref m21, .ref m22, .ref m23, .ref m24, .ref m25, .int z26, .int z27, .int z28, .int z29, .int z30, .ref m31, .ref m32, .ref m33, .ref m34, .ref m35, .ref m36, .ref m37, .long z38, .ref m39, .ref m40, .int z41, .ref m42])), (qa, zaJ k 4 (vp_updL (vp_updL (vp_updL fu 0 x_2) 1 x_3) 2 x_4)), (m2, zaJ k 4 (vp_updL (vp_updL (vp_updL (vp_updL f2 0 268435456) 1 (sar ((sar x 1) * 268435456) 28)) 2 (sar ((sar y 1) * 268435456) 28)) 3 (sar ((sar z 1) * 268435456) 28))), (m3, zaJ k 4 (qmul fu (vp_updL (vp_updL (vp_updL (vp_updL f2 0 268435456) 1 (sar ((sar x 1) * 268435456) 28)) 2 (sar ((sar y 1) * 268435456) 28)) 3 (sar ((sar z 1) * 268435456) 28))))]) rfl dX9_turn_243 (fun H locs hP hD hS => ?_)
  refine lv_iinc (v := 3) (lv' := [(25, .int 3), (23, .long (268435456 + (sar (268435456 - x_1) 1))), (21, .long x_1), (19, .long 268435456), (17, .long 268435456), (15, .long (sar ((((sar x 1) * (sar x 1)) + ((sar y 1) * (sar y 1))) + ((sar z 1) * (sar z 1))) 28)), (13, .long (sar z 1)), (11, .long (sar y 1)), (9, .long (sar x 1)), (0, .ref o), (1, .ref qa), (2, .long x), (4, .long y), (6, .long z), (8, .int 1)]) hx hb dX9_turn_244 hl (k := 0) rfl (by decide) (by decide) rfl (fun ls hl => ?_)
  refine lv_goto (tgt := 221) hx hb dX9_turn_247 (by decide) ?_
  refine lv_iload hx hb dX9_turn_221 (lv_at hl 0 rfl) ?_
  refine lv_iconst (v := 4) hx hb dX9_turn_223 (by decide) ?_
  refine lv_icmp_ge (tgt := 250) hx hb dX9_turn_224 (by decide) (fun c => absurd c (by decide)) (fun _ => ?_)
  refine lv_aload_n hx hb dX9_turn_227 rfl (lv_at hl 10 rfl) ?_
  refine lv_iload hx hb dX9_turn_228 (lv_at hl 0 rfl) ?_
  refine lv_aload_n hx hb dX9_turn_230 rfl (lv_at hl 9 rfl) ?_
  refine va_get (D := D) (ci := 8) (v := .ref m3) (C := RX9) (T := TX9) (N := 43) hx hb hts hinX9 hown hK hP 0 rfl rfl 3 (Nat.le_of_ble_eq_true rfl) hl19 (fun _ h9 => h9) rfl dX9_turn_231 ?_
  refine lv_iload hx hb dX9_turn_234 (lv_at hl 0 rfl) ?_
  refine z_lald hx hb hK hP 3 rfl 3 zx3 (by decide) (v := (qmul fu (vp_updL (vp_updL (vp_updL (vp_updL f2 0 268435456) 1 (sar ((sar x 1) * 268435456) 28)) 2 (sar ((sar y 1) * 268435456) 28)) 3 (sar ((sar z 1) * 268435456) 28))) 3) rfl dX9_turn_236 ?_
  refine lv_lload hx hb dX9_turn_237 (lv_at hl 1 rfl) ?_
  refine lv_lmul hx hb dX9_turn_239 ?_
  refine lv_bipush (v := 28) hx hb dX9_turn_240 (by decide) ?_
  refine lv_lshr (v := sar (((qmul fu (vp_updL (vp_updL (vp_updL (vp_updL f2 0 268435456) 1 (sar ((sar x 1) * 268435456) 28)) 2 (sar ((sar y 1) * 268435456) 28)) 3 (sar ((sar z 1) * 268435456) 28))) 3) * (268435456 + (sar (268435456 - x_1) 1))) 28) hx hb dX9_turn_242 rfl ?_
  refine lv_topl (fun x_5 ex_5 => ?_)
  refine z_last hx hb hK hP hD hS 1 rfl 3 zx3 (by decide) (ws' := [(o, .inr (8, [.ref m0, .ref m1, .ref m2, .ref m3, .ref m4, .ref m5, .ref m6, .ref m7, .ref m8, .ref m9, .ref m10, .ref m11, .ref m12, .long z13, .long z14, .int z15, .int z16, .int z17, .ref m18, .ref m19, .int z20, .ref m21, .ref m22, .ref m23, .ref m24, .ref m25, .int z26, .int z27, .int z28, .int z29, .int z30, .ref m31, .ref m32, .ref m33, .ref m34, .ref m35, .ref m36, .ref m37, .long z38, .ref m39, .ref m40, .int z41, .ref m42])), (qa, zaJ k 4 (vp_updL (vp_updL (vp_updL (vp_updL fu 0 x_2) 1 x_3) 2 x_4) 3 x_5)), (m2, zaJ k 4 (vp_updL (vp_updL (vp_updL (vp_updL f2 0 268435456) 1 (sar ((sar x 1) * 268435456) 28)) 2 (sar ((sar y 1) * 268435456) 28)) 3 (sar ((sar z 1) * 268435456) 28))), (m3, zaJ k 4 (qmul fu (vp_updL (vp_updL (vp_updL (vp_updL f2 0 268435456) 1 (sar ((sar x 1) * 268435456) 28)) 2 (sar ((sar y 1) * 268435456) 28)) 3 (sar ((sar z 1) * 268435456) 28))))]) rfl dX9_turn_243 (fun H locs hP hD hS => ?_)
  refine lv_iinc (v := 4) (lv' := [(25, .int 4), (23, .long (268435456 + (sar (268435456 - x_1) 1))), (21, .long x_1), (19, .long 268435456), (17, .long 268435456), (15, .long (sar ((((sar x 1) * (sar x 1)) + ((sar y 1) * (sar y 1))) + ((sar z 1) * (sar z 1))) 28)), (13, .long (sar z 1)), (11, .long (sar y 1)), (9, .long (sar x 1)), (0, .ref o), (1, .ref qa), (2, .long x), (4, .long y), (6, .long z), (8, .int 1)]) hx hb dX9_turn_244 hl (k := 0) rfl (by decide) (by decide) rfl (fun ls hl => ?_)
  refine lv_goto (tgt := 221) hx hb dX9_turn_247 (by decide) ?_
  refine lv_iload hx hb dX9_turn_221 (lv_at hl 0 rfl) ?_
  refine lv_iconst (v := 4) hx hb dX9_turn_223 (by decide) ?_
  refine lv_icmp_ge (tgt := 250) hx hb dX9_turn_224 (by decide) (fun _ => ?_) (fun c => absurd (by decide) c)
  have hP := z_congJ hP 1 rfl (g := qturnP fu x y z) (zall4 (by (first | (simp only [ex_1, ex_2, ex_3, ex_4, ex_5]; done) | (simp only [ex_1, ex_2, ex_3, ex_4, ex_5]; rfl) | rfl)) (by (first | (simp only [ex_1, ex_2, ex_3, ex_4, ex_5]; done) | (simp only [ex_1, ex_2, ex_3, ex_4, ex_5]; rfl) | rfl)) (by (first | (simp only [ex_1, ex_2, ex_3, ex_4, ex_5]; done) | (simp only [ex_1, ex_2, ex_3, ex_4, ex_5]; rfl) | rfl)) (by (first | (simp only [ex_1, ex_2, ex_3, ex_4, ex_5]; done) | (simp only [ex_1, ex_2, ex_3, ex_4, ex_5]; rfl) | rfl))) (ws' := [(o, .inr (8, [.ref m0, .ref m1, .ref m2, .ref m3, .ref m4, .ref m5, .ref m6, .ref m7, .ref m8, .ref m9, .ref m10, .ref m11, .ref m12, .long z13, .long z14, .int z15, .int z16, .int z17, .ref m18, .ref m19, .int z20, .ref m21, .ref m22, .ref m23, .ref m24, .ref m25, .int z26, .int z27, .int z28, .int z29, .int z30, .ref m31, .ref m32, .ref m33, .ref m34, .ref m35, .ref m36, .ref m37, .long z38, .ref m39, .ref m40, .int z41, .ref m42])), (qa, zaJ k 4 (qturnP fu x y z)), (m2, zaJ k 4 (vp_updL (vp_updL (vp_updL (vp_updL f2 0 268435456) 1 (sar ((sar x 1) * 268435456) 28)) 2 (sar ((sar y 1) * 268435456) 28)) 3 (sar ((sar z 1) * 268435456) 28))), (m3, zaJ k 4 (qmul fu (vp_updL (vp_updL (vp_updL (vp_updL f2 0 268435456) 1 (sar ((sar x 1) * 268435456) 28)) 2 (sar ((sar y 1) * 268435456) 28)) 3 (sar ((sar z 1) * 268435456) 28))))]) rfl
  have hD := z_congDJ hD 1 rfl (g := qturnP fu x y z) (ws' := [(o, .inr (8, [.ref m0, .ref m1, .ref m2, .ref m3, .ref m4, .ref m5, .ref m6, .ref m7, .ref m8, .ref m9, .ref m10, .ref m11, .ref m12, .long z13, .long z14, .int z15, .int z16, .int z17, .ref m18, .ref m19, .int z20, .ref m21, .ref m22, .ref m23, .ref m24, .ref m25, .int z26, .int z27, .int z28, .int z29, .int z30, .ref m31, .ref m32, .ref m33, .ref m34, .ref m35, .ref m36, .ref m37, .long z38, .ref m39, .ref m40, .int z41, .ref m42])), (qa, zaJ k 4 (qturnP fu x y z)), (m2, zaJ k 4 (vp_updL (vp_updL (vp_updL (vp_updL f2 0 268435456) 1 (sar ((sar x 1) * 268435456) 28)) 2 (sar ((sar y 1) * 268435456) 28)) 3 (sar ((sar z 1) * 268435456) 28))), (m3, zaJ k 4 (qmul fu (vp_updL (vp_updL (vp_updL (vp_updL f2 0 268435456) 1 (sar ((sar x 1) * 268435456) 28)) 2 (sar ((sar y 1) * 268435456) 28)) 3 (sar ((sar z 1) * 268435456) 28))))]) rfl
  have hP9 := hP.sub (ws' := [(o, .inr (8, [.ref m0, .ref m1, .ref m2, .ref m3, .ref m4, .ref m5, .ref m6, .ref m7, .ref m8, .ref m9, .ref m10, .ref m11, .ref m12, .long z13, .long z14, .int z15, .int z16, .int z17, .ref m18, .ref m19, .int z20, .ref m21, .ref m22, .ref m23, .ref m24, .ref m25, .int z26, .int z27, .int z28, .int z29, .int z30, .ref m31, .ref m32, .ref m33, .ref m34, .ref m35, .ref m36, .ref m37, .long z38, .ref m39, .ref m40, .int z41, .ref m42])), (qa, zaJ k 4 (qturnP fu x y z)), (m2, zaJ k 4 (vp_updL (vp_updL (vp_updL (vp_updL f2 0 268435456) 1 (sar ((sar x 1) * 268435456) 28)) 2 (sar ((sar y 1) * 268435456) 28)) 3 (sar ((sar z 1) * 268435456) 28))), (m3, zaJ k 4 (qmul fu (vp_updL (vp_updL (vp_updL (vp_updL f2 0 268435456) 1 (sar ((sar x 1) * 268435456) 28)) 2 (sar ((sar y 1) * 268435456) 28)) 3 (sar ((sar z 1) * 268435456) 28))))]) [0, 1, 2, 3] rfl
  have hD9 := hD.sub (ws' := [(o, .inr (8, [.ref m0, .ref m1, .ref m2, .ref m3, .ref m4, .ref m5, .ref m6, .ref m7, .ref m8, .ref m9, .ref m10, .ref m11, .ref m12, .long z13, .long z14, .int z15, .int z16, .int z17, .ref m18, .ref m19, .int z20, .ref m21, .ref m22, .ref m23, .ref m24, .ref m25, .int z26, .int z27, .int z28, .int z29, .int z30, .ref m31, .ref m32, .ref m33, .ref m34, .ref m35, .ref m36, .ref m37, .long z38, .ref m39, .ref m40, .int z41, .ref m42])), (qa, zaJ k 4 (qturnP fu x y z)), (m2, zaJ k 4 (vp_updL (vp_updL (vp_updL (vp_updL f2 0 268435456) 1 (sar ((sar x 1) * 268435456) 28)) 2 (sar ((sar y 1) * 268435456) 28)) 3 (sar ((sar z 1) * 268435456) 28))), (m3, zaJ k 4 (qmul fu (vp_updL (vp_updL (vp_updL (vp_updL f2 0 268435456) 1 (sar ((sar x 1) * 268435456) 28)) 2 (sar ((sar y 1) * 268435456) 28)) 3 (sar ((sar z 1) * 268435456) 28))))]) [0, 1, 2, 3] (by decide) rfl
  exact W.vret hx hb hr (fun t9 ht9 hW9 => ⟨⟨[(o, .inr (8, [.ref m0, .ref m1, .ref m2, .ref m3, .ref m4, .ref m5, .ref m6, .ref m7, .ref m8, .ref m9, .ref m10, .ref m11, .ref m12, .long z13, .long z14, .int z15, .int z16, .int z17, .ref m18, .ref m19, .int z20, .ref m21, .ref m22, .ref m23, .ref m24, .ref m25, .int z26, .int z27, .int z28, .int z29, .int z30, .ref m31, .ref m32, .ref m33, .ref m34, .ref m35, .ref m36, .ref m37, .long z38, .ref m39, .ref m40, .int z41, .ref m42])), (qa, zaJ k 4 (qturnP fu x y z)), (m2, zaJ k 4 (vp_updL (vp_updL (vp_updL (vp_updL f2 0 268435456) 1 (sar ((sar x 1) * 268435456) 28)) 2 (sar ((sar y 1) * 268435456) 28)) 3 (sar ((sar z 1) * 268435456) 28))), (m3, zaJ k 4 (qmul fu (vp_updL (vp_updL (vp_updL (vp_updL f2 0 268435456) 1 (sar ((sar x 1) * 268435456) 28)) 2 (sar ((sar y 1) * 268435456) 28)) 3 (sar ((sar z 1) * 268435456) 28))))], rfl, ⟨(vp_updL (vp_updL (vp_updL (vp_updL f2 0 268435456) 1 (sar ((sar x 1) * 268435456) 28)) 2 (sar ((sar y 1) * 268435456) 28)) 3 (sar ((sar z 1) * 268435456) 28)), (qmul fu (vp_updL (vp_updL (vp_updL (vp_updL f2 0 268435456) 1 (sar ((sar x 1) * 268435456) 28)) 2 (sar ((sar y 1) * 268435456) 28)) 3 (sar ((sar z 1) * 268435456) 28))), rfl⟩, by rw [ht9]; exact hP9, hD9⟩, hS.F ht9⟩) hS.2.2 dX9_turn_250
set_option maxHeartbeats 4000000 in
set_option maxRecDepth 100000 in
theorem c_X9_angle (l : Launch) (D : va_G) (k : Nat → ClassId) (sz : Nat) (o m0 m1 m2 m3 m4 m5 m6 m7 m8 m9 m10 m11 m12 m18 m19 m21 m22 m23 m24 m25 m31 m32 m33 m34 m35 m36 m37 m39 m40 m42 : Nat) (z13 z14 z38 : Int64) (z15 z16 z17 z20 z26 z27 z28 z29 z30 z41 : Int32) (pa qa : Nat) (fu fv f7 f3 : Nat → Int64) : Met l yX9_angle wsX9_angle ({ frames := 1, cells := 0, slots := 0, locals := 27 } : Room) (va_Pc [.ref o, .ref pa, .ref qa] (zPre D k [(o, .inr (8, [.ref m0, .ref m1, .ref m2, .ref m3, .ref m4, .ref m5, .ref m6, .ref m7, .ref m8, .ref m9, .ref m10, .ref m11, .ref m12, .long z13, .long z14, .int z15, .int z16, .int z17, .ref m18, .ref m19, .int z20, .ref m21, .ref m22, .ref m23, .ref m24, .ref m25, .int z26, .int z27, .int z28, .int z29, .int z30, .ref m31, .ref m32, .ref m33, .ref m34, .ref m35, .ref m36, .ref m37, .long z38, .ref m39, .ref m40, .int z41, .ref m42])), (pa, zaJ k 4 fu), (qa, zaJ k 4 fv), (m7, zaJ k 4 f7), (m3, zaJ k 4 f3)] sz zX0)) (zQl D [(o, .inr (8, [.ref m0, .ref m1, .ref m2, .ref m3, .ref m4, .ref m5, .ref m6, .ref m7, .ref m8, .ref m9, .ref m10, .ref m11, .ref m12, .long z13, .long z14, .int z15, .int z16, .int z17, .ref m18, .ref m19, .int z20, .ref m21, .ref m22, .ref m23, .ref m24, .ref m25, .int z26, .int z27, .int z28, .int z29, .int z30, .ref m31, .ref m32, .ref m33, .ref m34, .ref m35, .ref m36, .ref m37, .long z38, .ref m39, .ref m40, .int z41, .ref m42])), (pa, zaJ k 4 fu), (qa, zaJ k 4 fv), (m7, zaJ k 4 f7), (m3, zaJ k 4 f3)] sz (qang fu fv) (fun w : va_W => ∃ (f72 f32 : Nat → Int64), w = [(o, .inr (8, [.ref m0, .ref m1, .ref m2, .ref m3, .ref m4, .ref m5, .ref m6, .ref m7, .ref m8, .ref m9, .ref m10, .ref m11, .ref m12, .long z13, .long z14, .int z15, .int z16, .int z17, .ref m18, .ref m19, .int z20, .ref m21, .ref m22, .ref m23, .ref m24, .ref m25, .int z26, .int z27, .int z28, .int z29, .int z30, .ref m31, .ref m32, .ref m33, .ref m34, .ref m35, .ref m36, .ref m37, .long z38, .ref m39, .ref m40, .int z41, .ref m42])), (pa, zaJ k 4 fu), (qa, zaJ k 4 fv), (m7, zaJ k 4 f72), (m3, zaJ k 4 f32)])) 0 0 (va_A [(o, .inr (8, [.ref m0, .ref m1, .ref m2, .ref m3, .ref m4, .ref m5, .ref m6, .ref m7, .ref m8, .ref m9, .ref m10, .ref m11, .ref m12, .long z13, .long z14, .int z15, .int z16, .int z17, .ref m18, .ref m19, .int z20, .ref m21, .ref m22, .ref m23, .ref m24, .ref m25, .int z26, .int z27, .int z28, .int z29, .int z30, .ref m31, .ref m32, .ref m33, .ref m34, .ref m35, .ref m36, .ref m37, .long z38, .ref m39, .ref m40, .int z41, .ref m42])), (pa, zaJ k 4 fu), (qa, zaJ k 4 fv), (m7, zaJ k 4 f7), (m3, zaJ k 4 f3)] sz) := by
  refine Met.ofW (cc := cX9_angle) (maxL := 4) (ret := (some .long)) (by decide) rfl ?_
  intro p e s m args below meth c s₁ B hml hv
  obtain ⟨rfl, hsz, hP, hK, hD0, hE⟩ := hv
  have hx := B.exec
  have hb := B.bytes
  have hr := B.returns
  have hts := atoms_spec (ws := wsX9_angle) B.pre
  have hown : s.vm.findClass RX9 = some m.cls := findClass_of_methodNamed B.named
  have hlocks := B.notSynchronized
  subst hsz
  have hD := hD0.self (sz := s.heap.size)
  delta zQl zB
  generalize hAe : va_A [(o, .inr (8, [.ref m0, .ref m1, .ref m2, .ref m3, .ref m4, .ref m5, .ref m6, .ref m7, .ref m8, .ref m9, .ref m10, .ref m11, .ref m12, .long z13, .long z14, .int z15, .int z16, .int z17, .ref m18, .ref m19, .int z20, .ref m21, .ref m22, .ref m23, .ref m24, .ref m25, .int z26, .int z27, .int z28, .int z29, .int z30, .ref m31, .ref m32, .ref m33, .ref m34, .ref m35, .ref m36, .ref m37, .long z38, .ref m39, .ref m40, .int z41, .ref m42])), (pa, zaJ k 4 fu), (qa, zaJ k 4 fv), (m7, zaJ k 4 f7), (m3, zaJ k 4 f3)] s.heap.size = A at hD hE ⊢
  have hA : ∀ q : Nat, s.heap.size ≤ q → A q := fun q h => by rw [← hAe]; exact Or.inr h
  have hS : va_S A s.heap s.heap [] := va_S.rf
  have hl := lv_entry [.ref o, .ref pa, .ref qa] (n := 4) (Nat.le_of_ble_eq_true rfl)
  rw [lg_entry_eq]
  generalize (lg_sl [.ref o, .ref pa, .ref qa] ++ List.replicate (4 - (lg_sl [.ref o, .ref pa, .ref qa]).length) Slot.unset).toArray = ls at hl ⊢
  have hl : lv_has ls 4 [(0, .ref o), (1, .ref pa), (2, .ref qa)] := hl
  have hl31 : (Cond.fieldLink RX9 31 "InertialReferenceModel" "other" "[J").before #[Value.ref o, Value.ref pa, Value.ref qa] s = true := zw hts 1 rfl
  have hinX9 : ∀ w ∈ u_ws RX9 TX9 43, w ∈ wsX9_angle := fun w h => List.mem_cons_of_mem _ (List.mem_append_right _ h)
  have hl105 : (Cond.constantLong RX9 105 (2)).before #[Value.ref o, Value.ref pa, Value.ref qa] s = true := zw hts 2 rfl
  have hl19 : (Cond.fieldLink RX9 19 "InertialReferenceModel" "product" "[J").before #[Value.ref o, Value.ref pa, Value.ref qa] s = true := zw hts 3 rfl
  refine lv_aload_n hx hb dX9_angle_0 rfl (lv_at hl 0 rfl) ?_
  refine va_get (D := D) (ci := 8) (v := .ref m7) (C := RX9) (T := TX9) (N := 43) hx hb hts hinX9 hown hK hP 0 rfl rfl 7 (Nat.le_of_ble_eq_true rfl) hl31 (fun _ h9 => h9) rfl dX9_angle_1 ?_
  refine lv_iconst (v := 0) hx hb dX9_angle_4 (by decide) ?_
  refine lv_aload_n hx hb dX9_angle_5 rfl (lv_at hl 1 rfl) ?_
  refine lv_iconst (v := 0) hx hb dX9_angle_6 (by decide) ?_
  refine z_lald hx hb hK hP 1 rfl 0 zx0 (by decide) (v := fu 0) rfl dX9_angle_7 ?_
  refine z_last hx hb hK hP hD hS 3 rfl 0 zx0 (by decide) (ws' := [(o, .inr (8, [.ref m0, .ref m1, .ref m2, .ref m3, .ref m4, .ref m5, .ref m6, .ref m7, .ref m8, .ref m9, .ref m10, .ref m11, .ref m12, .long z13, .long z14, .int z15, .int z16, .int z17, .ref m18, .ref m19, .int z20, .ref m21, .ref m22, .ref m23, .ref m24, .ref m25, .int z26, .int z27, .int z28, .int z29, .int z30, .ref m31, .ref m32, .ref m33, .ref m34, .ref m35, .ref m36, .ref m37, .long z38, .ref m39, .ref m40, .int z41, .ref m42])), (pa, zaJ k 4 fu), (qa, zaJ k 4 fv), (m7, zaJ k 4 (vp_updL f7 0 (fu 0))), (m3, zaJ k 4 f3)]) rfl dX9_angle_8 (fun H locs hP hD hS => ?_)
  refine lv_iconst (v := 1) hx hb dX9_angle_9 (by decide) ?_
  refine lv_istore_n (lv' := [(3, .int 1), (0, .ref o), (1, .ref pa), (2, .ref qa)]) hx hb dX9_angle_10 rfl hl (by decide) rfl (fun ls hl => ?_)
  refine lv_iload_n hx hb dX9_angle_11 rfl (lv_at hl 0 rfl) ?_
  refine lv_iconst (v := 4) hx hb dX9_angle_12 (by decide) ?_
  refine lv_icmp_ge (tgt := 32) hx hb dX9_angle_13 (by decide) (fun c => absurd c (by decide)) (fun _ => ?_)
  refine lv_aload_n hx hb dX9_angle_16 rfl (lv_at hl 1 rfl) ?_
  refine va_get (D := D) (ci := 8) (v := .ref m7) (C := RX9) (T := TX9) (N := 43) hx hb hts hinX9 hown hK hP 0 rfl rfl 7 (Nat.le_of_ble_eq_true rfl) hl31 (fun _ h9 => h9) rfl dX9_angle_17 ?_
  refine lv_iload_n hx hb dX9_angle_20 rfl (lv_at hl 0 rfl) ?_
  refine lv_aload_n hx hb dX9_angle_21 rfl (lv_at hl 2 rfl) ?_
  refine lv_iload_n hx hb dX9_angle_22 rfl (lv_at hl 0 rfl) ?_
  refine z_lald hx hb hK hP 1 rfl 1 zx1 (by decide) (v := fu 1) rfl dX9_angle_23 ?_
  refine lv_lneg hx hb dX9_angle_24 ?_
  refine z_last hx hb hK hP hD hS 3 rfl 1 zx1 (by decide) (ws' := [(o, .inr (8, [.ref m0, .ref m1, .ref m2, .ref m3, .ref m4, .ref m5, .ref m6, .ref m7, .ref m8, .ref m9, .ref m10, .ref m11, .ref m12, .long z13, .long z14, .int z15, .int z16, .int z17, .ref m18, .ref m19, .int z20, .ref m21, .ref m22, .ref m23, .ref m24, .ref m25, .int z26, .int z27, .int z28, .int z29, .int z30, .ref m31, .ref m32, .ref m33, .ref m34, .ref m35, .ref m36, .ref m37, .long z38, .ref m39, .ref m40, .int z41, .ref m42])), (pa, zaJ k 4 fu), (qa, zaJ k 4 fv), (m7, zaJ k 4 (vp_updL (vp_updL f7 0 (fu 0)) 1 (-(fu 1)))), (m3, zaJ k 4 f3)]) rfl dX9_angle_25 (fun H locs hP hD hS => ?_)
  refine lv_iinc (v := 2) (lv' := [(3, .int 2), (0, .ref o), (1, .ref pa), (2, .ref qa)]) hx hb dX9_angle_26 hl (k := 0) rfl (by decide) (by decide) rfl (fun ls hl => ?_)
  refine lv_goto (tgt := 11) hx hb dX9_angle_29 (by decide) ?_
  refine lv_iload_n hx hb dX9_angle_11 rfl (lv_at hl 0 rfl) ?_
  refine lv_iconst (v := 4) hx hb dX9_angle_12 (by decide) ?_
  refine lv_icmp_ge (tgt := 32) hx hb dX9_angle_13 (by decide) (fun c => absurd c (by decide)) (fun _ => ?_)
  refine lv_aload_n hx hb dX9_angle_16 rfl (lv_at hl 1 rfl) ?_
  refine va_get (D := D) (ci := 8) (v := .ref m7) (C := RX9) (T := TX9) (N := 43) hx hb hts hinX9 hown hK hP 0 rfl rfl 7 (Nat.le_of_ble_eq_true rfl) hl31 (fun _ h9 => h9) rfl dX9_angle_17 ?_
  refine lv_iload_n hx hb dX9_angle_20 rfl (lv_at hl 0 rfl) ?_
  refine lv_aload_n hx hb dX9_angle_21 rfl (lv_at hl 2 rfl) ?_
  refine lv_iload_n hx hb dX9_angle_22 rfl (lv_at hl 0 rfl) ?_
  refine z_lald hx hb hK hP 1 rfl 2 zx2 (by decide) (v := fu 2) rfl dX9_angle_23 ?_
  refine lv_lneg hx hb dX9_angle_24 ?_
  refine z_last hx hb hK hP hD hS 3 rfl 2 zx2 (by decide) (ws' := [(o, .inr (8, [.ref m0, .ref m1, .ref m2, .ref m3, .ref m4, .ref m5, .ref m6, .ref m7, .ref m8, .ref m9, .ref m10, .ref m11, .ref m12, .long z13, .long z14, .int z15, .int z16, .int z17, .ref m18, .ref m19, .int z20, .ref m21, .ref m22, .ref m23, .ref m24, .ref m25, .int z26, .int z27, .int z28, .int z29, .int z30, .ref m31, .ref m32, .ref m33, .ref m34, .ref m35, .ref m36, .ref m37, .long z38, .ref m39, .ref m40, .int z41, .ref m42])), (pa, zaJ k 4 fu), (qa, zaJ k 4 fv), (m7, zaJ k 4 (vp_updL (vp_updL (vp_updL f7 0 (fu 0)) 1 (-(fu 1))) 2 (-(fu 2)))), (m3, zaJ k 4 f3)]) rfl dX9_angle_25 (fun H locs hP hD hS => ?_)
  refine lv_iinc (v := 3) (lv' := [(3, .int 3), (0, .ref o), (1, .ref pa), (2, .ref qa)]) hx hb dX9_angle_26 hl (k := 0) rfl (by decide) (by decide) rfl (fun ls hl => ?_)
  refine lv_goto (tgt := 11) hx hb dX9_angle_29 (by decide) ?_
  refine lv_iload_n hx hb dX9_angle_11 rfl (lv_at hl 0 rfl) ?_
  refine lv_iconst (v := 4) hx hb dX9_angle_12 (by decide) ?_
  refine lv_icmp_ge (tgt := 32) hx hb dX9_angle_13 (by decide) (fun c => absurd c (by decide)) (fun _ => ?_)
  refine lv_aload_n hx hb dX9_angle_16 rfl (lv_at hl 1 rfl) ?_
  refine va_get (D := D) (ci := 8) (v := .ref m7) (C := RX9) (T := TX9) (N := 43) hx hb hts hinX9 hown hK hP 0 rfl rfl 7 (Nat.le_of_ble_eq_true rfl) hl31 (fun _ h9 => h9) rfl dX9_angle_17 ?_
  refine lv_iload_n hx hb dX9_angle_20 rfl (lv_at hl 0 rfl) ?_
  refine lv_aload_n hx hb dX9_angle_21 rfl (lv_at hl 2 rfl) ?_
  refine lv_iload_n hx hb dX9_angle_22 rfl (lv_at hl 0 rfl) ?_
  refine z_lald hx hb hK hP 1 rfl 3 zx3 (by decide) (v := fu 3) rfl dX9_angle_23 ?_
  refine lv_lneg hx hb dX9_angle_24 ?_
  refine z_last hx hb hK hP hD hS 3 rfl 3 zx3 (by decide) (ws' := [(o, .inr (8, [.ref m0, .ref m1, .ref m2, .ref m3, .ref m4, .ref m5, .ref m6, .ref m7, .ref m8, .ref m9, .ref m10, .ref m11, .ref m12, .long z13, .long z14, .int z15, .int z16, .int z17, .ref m18, .ref m19, .int z20, .ref m21, .ref m22, .ref m23, .ref m24, .ref m25, .int z26, .int z27, .int z28, .int z29, .int z30, .ref m31, .ref m32, .ref m33, .ref m34, .ref m35, .ref m36, .ref m37, .long z38, .ref m39, .ref m40, .int z41, .ref m42])), (pa, zaJ k 4 fu), (qa, zaJ k 4 fv), (m7, zaJ k 4 (vp_updL (vp_updL (vp_updL (vp_updL f7 0 (fu 0)) 1 (-(fu 1))) 2 (-(fu 2))) 3 (-(fu 3)))), (m3, zaJ k 4 f3)]) rfl dX9_angle_25 (fun H locs hP hD hS => ?_)
  refine lv_iinc (v := 4) (lv' := [(3, .int 4), (0, .ref o), (1, .ref pa), (2, .ref qa)]) hx hb dX9_angle_26 hl (k := 0) rfl (by decide) (by decide) rfl (fun ls hl => ?_)
  refine lv_goto (tgt := 11) hx hb dX9_angle_29 (by decide) ?_
  have hP := z_congJ hP 3 rfl (g := qconj fu) (zall4 rfl rfl rfl rfl) (ws' := [(o, .inr (8, [.ref m0, .ref m1, .ref m2, .ref m3, .ref m4, .ref m5, .ref m6, .ref m7, .ref m8, .ref m9, .ref m10, .ref m11, .ref m12, .long z13, .long z14, .int z15, .int z16, .int z17, .ref m18, .ref m19, .int z20, .ref m21, .ref m22, .ref m23, .ref m24, .ref m25, .int z26, .int z27, .int z28, .int z29, .int z30, .ref m31, .ref m32, .ref m33, .ref m34, .ref m35, .ref m36, .ref m37, .long z38, .ref m39, .ref m40, .int z41, .ref m42])), (pa, zaJ k 4 fu), (qa, zaJ k 4 fv), (m7, zaJ k 4 (qconj fu)), (m3, zaJ k 4 f3)]) rfl
  have hD := z_congDJ hD 3 rfl (g := qconj fu) (ws' := [(o, .inr (8, [.ref m0, .ref m1, .ref m2, .ref m3, .ref m4, .ref m5, .ref m6, .ref m7, .ref m8, .ref m9, .ref m10, .ref m11, .ref m12, .long z13, .long z14, .int z15, .int z16, .int z17, .ref m18, .ref m19, .int z20, .ref m21, .ref m22, .ref m23, .ref m24, .ref m25, .int z26, .int z27, .int z28, .int z29, .int z30, .ref m31, .ref m32, .ref m33, .ref m34, .ref m35, .ref m36, .ref m37, .long z38, .ref m39, .ref m40, .int z41, .ref m42])), (pa, zaJ k 4 fu), (qa, zaJ k 4 fv), (m7, zaJ k 4 (qconj fu)), (m3, zaJ k 4 f3)]) rfl
  refine lv_iload_n hx hb dX9_angle_11 rfl (lv_at hl 0 rfl) ?_
  refine lv_iconst (v := 4) hx hb dX9_angle_12 (by decide) ?_
  refine lv_icmp_ge (tgt := 32) hx hb dX9_angle_13 (by decide) (fun _ => ?_) (fun c => absurd (by decide) c)
  refine lv_aload_n hx hb dX9_angle_32 rfl (lv_at hl 1 rfl) ?_
  refine lv_aload_n hx hb dX9_angle_33 rfl (lv_at hl 1 rfl) ?_
  refine va_get (D := D) (ci := 8) (v := .ref m7) (C := RX9) (T := TX9) (N := 43) hx hb hts hinX9 hown hK hP 0 rfl rfl 7 (Nat.le_of_ble_eq_true rfl) hl31 (fun _ h9 => h9) rfl dX9_angle_34 ?_
  refine lv_aload_n hx hb dX9_angle_37 rfl (lv_at hl 3 rfl) ?_
  refine z_callv0 (wc := [(o, .inr (8, [.ref m0, .ref m1, .ref m2, .ref m3, .ref m4, .ref m5, .ref m6, .ref m7, .ref m8, .ref m9, .ref m10, .ref m11, .ref m12, .long z13, .long z14, .int z15, .int z16, .int z17, .ref m18, .ref m19, .int z20, .ref m21, .ref m22, .ref m23, .ref m24, .ref m25, .int z26, .int z27, .int z28, .int z29, .int z30, .ref m31, .ref m32, .ref m33, .ref m34, .ref m35, .ref m36, .ref m37, .long z38, .ref m39, .ref m40, .int z41, .ref m42])), (m7, zaJ k 4 (qconj fu)), (qa, zaJ k 4 fv), (m3, zaJ k 4 f3)]) (wr := [(pa, zaJ k 4 fu)]) (va_runV (As := [.ref m7, .ref qa]) (rest := []) ⟨hx, hb, hml, hown, hts⟩ (c_X9_multiply l D k H.size o m0 m1 m2 m3 m4 m5 m6 m7 m8 m9 m10 m11 m12 m18 m19 m21 m22 m23 m24 m25 m31 m32 m33 m34 m35 m36 m37 m39 m40 m42 z13 z14 z38 z15 z16 z17 z20 z26 z27 z28 z29 z30 z41 m7 qa (qconj fu) fv f3) (cwV 2 hts gX9_angle_X9_multiply rfl rfl rfl (by decide +kernel) ⟨Nat.le_of_ble_eq_true rfl, Nat.le_of_ble_eq_true rfl⟩) (z_preV (wc := [(o, .inr (8, [.ref m0, .ref m1, .ref m2, .ref m3, .ref m4, .ref m5, .ref m6, .ref m7, .ref m8, .ref m9, .ref m10, .ref m11, .ref m12, .long z13, .long z14, .int z15, .int z16, .int z17, .ref m18, .ref m19, .int z20, .ref m21, .ref m22, .ref m23, .ref m24, .ref m25, .int z26, .int z27, .int z28, .int z29, .int z30, .ref m31, .ref m32, .ref m33, .ref m34, .ref m35, .ref m36, .ref m37, .long z38, .ref m39, .ref m40, .int z41, .ref m42])), (m7, zaJ k 4 (qconj fu)), (qa, zaJ k 4 fv), (m3, zaJ k 4 f3)]) 0 8 hP hD hK [0, 3, 2, 4] rfl rfl rfl rfl zb0 zp0) rfl rfl hl.1 rfl (lv_room (Nat.le_of_ble_eq_true rfl)) dX9_angle_38 ⟨Nat.zero_le _, Nat.zero_le _⟩) hP hD hS hA [0, 3, 2, 4] [1] rfl rfl rfl (by decide) (fun w H locs hF hP hD hS => ?_)
  subst hF
  have hP : va_P D vwCl [(pa, zaJ k 4 fu), (o, .inr (8, [.ref m0, .ref m1, .ref m2, .ref m3, .ref m4, .ref m5, .ref m6, .ref m7, .ref m8, .ref m9, .ref m10, .ref m11, .ref m12, .long z13, .long z14, .int z15, .int z16, .int z17, .ref m18, .ref m19, .int z20, .ref m21, .ref m22, .ref m23, .ref m24, .ref m25, .int z26, .int z27, .int z28, .int z29, .int z30, .ref m31, .ref m32, .ref m33, .ref m34, .ref m35, .ref m36, .ref m37, .long z38, .ref m39, .ref m40, .int z41, .ref m42])), (m7, zaJ k 4 (qconj fu)), (qa, zaJ k 4 fv), (m3, zaJ k 4 (qmul (qconj fu) fv))] H := hP
  have hD : va_D A [(pa, zaJ k 4 fu), (o, .inr (8, [.ref m0, .ref m1, .ref m2, .ref m3, .ref m4, .ref m5, .ref m6, .ref m7, .ref m8, .ref m9, .ref m10, .ref m11, .ref m12, .long z13, .long z14, .int z15, .int z16, .int z17, .ref m18, .ref m19, .int z20, .ref m21, .ref m22, .ref m23, .ref m24, .ref m25, .int z26, .int z27, .int z28, .int z29, .int z30, .ref m31, .ref m32, .ref m33, .ref m34, .ref m35, .ref m36, .ref m37, .long z38, .ref m39, .ref m40, .int z41, .ref m42])), (m7, zaJ k 4 (qconj fu)), (qa, zaJ k 4 fv), (m3, zaJ k 4 (qmul (qconj fu) fv))] := hD
  refine lv_ldc2 hx hb hown hl105 dX9_angle_41 ?_
  refine lv_aload_n hx hb dX9_angle_44 rfl (lv_at hl 1 rfl) ?_
  refine va_get (D := D) (ci := 8) (v := .ref m3) (C := RX9) (T := TX9) (N := 43) hx hb hts hinX9 hown hK hP 1 rfl rfl 3 (Nat.le_of_ble_eq_true rfl) hl19 (fun _ h9 => h9) rfl dX9_angle_45 ?_
  refine lv_iconst (v := 1) hx hb dX9_angle_48 (by decide) ?_
  refine z_lald hx hb hK hP 4 rfl 1 zx1 (by decide) (v := (qmul (qconj fu) fv) 1) rfl dX9_angle_49 ?_
  refine lv_aload_n hx hb dX9_angle_50 rfl (lv_at hl 1 rfl) ?_
  refine va_get (D := D) (ci := 8) (v := .ref m3) (C := RX9) (T := TX9) (N := 43) hx hb hts hinX9 hown hK hP 1 rfl rfl 3 (Nat.le_of_ble_eq_true rfl) hl19 (fun _ h9 => h9) rfl dX9_angle_51 ?_
  refine lv_iconst (v := 1) hx hb dX9_angle_54 (by decide) ?_
  refine z_lald hx hb hK hP 4 rfl 1 zx1 (by decide) (v := (qmul (qconj fu) fv) 1) rfl dX9_angle_55 ?_
  refine lv_lmul hx hb dX9_angle_56 ?_
  refine lv_aload_n hx hb dX9_angle_57 rfl (lv_at hl 1 rfl) ?_
  refine va_get (D := D) (ci := 8) (v := .ref m3) (C := RX9) (T := TX9) (N := 43) hx hb hts hinX9 hown hK hP 1 rfl rfl 3 (Nat.le_of_ble_eq_true rfl) hl19 (fun _ h9 => h9) rfl dX9_angle_58 ?_
  refine lv_iconst (v := 2) hx hb dX9_angle_61 (by decide) ?_
  refine z_lald hx hb hK hP 4 rfl 2 zx2 (by decide) (v := (qmul (qconj fu) fv) 2) rfl dX9_angle_62 ?_
  refine lv_aload_n hx hb dX9_angle_63 rfl (lv_at hl 1 rfl) ?_
  refine va_get (D := D) (ci := 8) (v := .ref m3) (C := RX9) (T := TX9) (N := 43) hx hb hts hinX9 hown hK hP 1 rfl rfl 3 (Nat.le_of_ble_eq_true rfl) hl19 (fun _ h9 => h9) rfl dX9_angle_64 ?_
  refine lv_iconst (v := 2) hx hb dX9_angle_67 (by decide) ?_
  refine z_lald hx hb hK hP 4 rfl 2 zx2 (by decide) (v := (qmul (qconj fu) fv) 2) rfl dX9_angle_68 ?_
  refine lv_lmul hx hb dX9_angle_69 ?_
  refine lv_ladd hx hb dX9_angle_70 ?_
  refine lv_aload_n hx hb dX9_angle_71 rfl (lv_at hl 1 rfl) ?_
  refine va_get (D := D) (ci := 8) (v := .ref m3) (C := RX9) (T := TX9) (N := 43) hx hb hts hinX9 hown hK hP 1 rfl rfl 3 (Nat.le_of_ble_eq_true rfl) hl19 (fun _ h9 => h9) rfl dX9_angle_72 ?_
  refine lv_iconst (v := 3) hx hb dX9_angle_75 (by decide) ?_
  refine z_lald hx hb hK hP 4 rfl 3 zx3 (by decide) (v := (qmul (qconj fu) fv) 3) rfl dX9_angle_76 ?_
  refine lv_aload_n hx hb dX9_angle_77 rfl (lv_at hl 1 rfl) ?_
  refine va_get (D := D) (ci := 8) (v := .ref m3) (C := RX9) (T := TX9) (N := 43) hx hb hts hinX9 hown hK hP 1 rfl rfl 3 (Nat.le_of_ble_eq_true rfl) hl19 (fun _ h9 => h9) rfl dX9_angle_78 ?_
  refine lv_iconst (v := 3) hx hb dX9_angle_81 (by decide) ?_
  refine z_lald hx hb hK hP 4 rfl 3 zx3 (by decide) (v := (qmul (qconj fu) fv) 3) rfl dX9_angle_82 ?_
  refine lv_lmul hx hb dX9_angle_83 ?_
  refine lv_ladd hx hb dX9_angle_84 ?_
  refine z_calll0 (wc := []) (wr := [(pa, zaJ k 4 fu), (o, .inr (8, [.ref m0, .ref m1, .ref m2, .ref m3, .ref m4, .ref m5, .ref m6, .ref m7, .ref m8, .ref m9, .ref m10, .ref m11, .ref m12, .long z13, .long z14, .int z15, .int z16, .int z17, .ref m18, .ref m19, .int z20, .ref m21, .ref m22, .ref m23, .ref m24, .ref m25, .int z26, .int z27, .int z28, .int z29, .int z30, .ref m31, .ref m32, .ref m33, .ref m34, .ref m35, .ref m36, .ref m37, .long z38, .ref m39, .ref m40, .int z41, .ref m42])), (m7, zaJ k 4 (qconj fu)), (qa, zaJ k 4 fv), (m3, zaJ k 4 (qmul (qconj fu) fv))]) (va_runS (As := [.long (((((qmul (qconj fu) fv) 1) * ((qmul (qconj fu) fv) 1)) + (((qmul (qconj fu) fv) 2) * ((qmul (qconj fu) fv) 2))) + (((qmul (qconj fu) fv) 3) * ((qmul (qconj fu) fv) 3)))]) (rest := [.long 2]) ⟨hx, hb, hml, hown, hts⟩ (c_X9_root l D k H.size (qang2 fu fv)) (va_cwS 1 hts gX9_angle_X9_root rfl rfl rfl (by decide +kernel) ⟨Nat.le_of_ble_eq_true rfl, Nat.le_of_ble_eq_true rfl⟩) (z_preS (wc := []) hP hD hK [] rfl rfl zb0 zp0) rfl rfl hl.1 rfl (lv_room (Nat.le_of_ble_eq_true rfl)) dX9_angle_85 ⟨Nat.zero_le _, Nat.zero_le _⟩) hP hD hS hA [] [0, 1, 2, 3, 4] rfl rfl rfl (by decide) (fun w H locs hF hP hD hS => ?_)
  subst hF
  have hP : va_P D vwCl [(pa, zaJ k 4 fu), (o, .inr (8, [.ref m0, .ref m1, .ref m2, .ref m3, .ref m4, .ref m5, .ref m6, .ref m7, .ref m8, .ref m9, .ref m10, .ref m11, .ref m12, .long z13, .long z14, .int z15, .int z16, .int z17, .ref m18, .ref m19, .int z20, .ref m21, .ref m22, .ref m23, .ref m24, .ref m25, .int z26, .int z27, .int z28, .int z29, .int z30, .ref m31, .ref m32, .ref m33, .ref m34, .ref m35, .ref m36, .ref m37, .long z38, .ref m39, .ref m40, .int z41, .ref m42])), (m7, zaJ k 4 (qconj fu)), (qa, zaJ k 4 fv), (m3, zaJ k 4 (qmul (qconj fu) fv))] H := hP
  have hD : va_D A [(pa, zaJ k 4 fu), (o, .inr (8, [.ref m0, .ref m1, .ref m2, .ref m3, .ref m4, .ref m5, .ref m6, .ref m7, .ref m8, .ref m9, .ref m10, .ref m11, .ref m12, .long z13, .long z14, .int z15, .int z16, .int z17, .ref m18, .ref m19, .int z20, .ref m21, .ref m22, .ref m23, .ref m24, .ref m25, .int z26, .int z27, .int z28, .int z29, .int z30, .ref m31, .ref m32, .ref m33, .ref m34, .ref m35, .ref m36, .ref m37, .long z38, .ref m39, .ref m40, .int z41, .ref m42])), (m7, zaJ k 4 (qconj fu)), (qa, zaJ k 4 fv), (m3, zaJ k 4 (qmul (qconj fu) fv))] := hD
  refine lv_lmul hx hb dX9_angle_88 ?_
  have hP9 := hP.sub (ws' := [(o, .inr (8, [.ref m0, .ref m1, .ref m2, .ref m3, .ref m4, .ref m5, .ref m6, .ref m7, .ref m8, .ref m9, .ref m10, .ref m11, .ref m12, .long z13, .long z14, .int z15, .int z16, .int z17, .ref m18, .ref m19, .int z20, .ref m21, .ref m22, .ref m23, .ref m24, .ref m25, .int z26, .int z27, .int z28, .int z29, .int z30, .ref m31, .ref m32, .ref m33, .ref m34, .ref m35, .ref m36, .ref m37, .long z38, .ref m39, .ref m40, .int z41, .ref m42])), (pa, zaJ k 4 fu), (qa, zaJ k 4 fv), (m7, zaJ k 4 (qconj fu)), (m3, zaJ k 4 (qmul (qconj fu) fv))]) [1, 0, 3, 2, 4] rfl
  have hD9 := hD.sub (ws' := [(o, .inr (8, [.ref m0, .ref m1, .ref m2, .ref m3, .ref m4, .ref m5, .ref m6, .ref m7, .ref m8, .ref m9, .ref m10, .ref m11, .ref m12, .long z13, .long z14, .int z15, .int z16, .int z17, .ref m18, .ref m19, .int z20, .ref m21, .ref m22, .ref m23, .ref m24, .ref m25, .int z26, .int z27, .int z28, .int z29, .int z30, .ref m31, .ref m32, .ref m33, .ref m34, .ref m35, .ref m36, .ref m37, .long z38, .ref m39, .ref m40, .int z41, .ref m42])), (pa, zaJ k 4 fu), (qa, zaJ k 4 fv), (m7, zaJ k 4 (qconj fu)), (m3, zaJ k 4 (qmul (qconj fu) fv))]) [1, 0, 3, 2, 4] (by decide) rfl
  exact W.lret (v := 2 * (isq (qang2 fu fv))) hx hb hr (fun t9 ht9 hW9 => ⟨⟨(2 * (isq (qang2 fu fv))), [(o, .inr (8, [.ref m0, .ref m1, .ref m2, .ref m3, .ref m4, .ref m5, .ref m6, .ref m7, .ref m8, .ref m9, .ref m10, .ref m11, .ref m12, .long z13, .long z14, .int z15, .int z16, .int z17, .ref m18, .ref m19, .int z20, .ref m21, .ref m22, .ref m23, .ref m24, .ref m25, .int z26, .int z27, .int z28, .int z29, .int z30, .ref m31, .ref m32, .ref m33, .ref m34, .ref m35, .ref m36, .ref m37, .long z38, .ref m39, .ref m40, .int z41, .ref m42])), (pa, zaJ k 4 fu), (qa, zaJ k 4 fv), (m7, zaJ k 4 (qconj fu)), (m3, zaJ k 4 (qmul (qconj fu) fv))], rfl, ⟨by rfl, ⟨(qconj fu), (qmul (qconj fu) fv), rfl⟩⟩, by rw [ht9]; exact hP9, hD9⟩, hS.F ht9⟩) hS.2.2 dX9_angle_89
