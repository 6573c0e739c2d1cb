set_option maxHeartbeats 4000000 in
set_option maxRecDepth 100000 in
theorem c_J9_floorDiv_f86c9 (l : Launch) (D : va_G) (k : Nat → ClassId) (sz : Nat) (x y : Int64) (hy : ¬ y = 0) : Met l yJ9_floorDiv_f86c9 wsJ9_floorDiv_f86c9 ({ frames := 0, cells := 0, slots := 0, locals := 0 } : Room) (va_Pc [.long x, .long y] (zPre D k [] sz zX0)) (zQl D [] sz (fdiv x y) (fun w : va_W => w = [])) 0 0 (va_A [] sz) := by
  refine va_MetF (cc := cJ9_floorDiv_f86c9) (maxL := 6) (ret := (some .long)) (by decide +kernel) rfl ?_
  intro p e s m args below meth c s₁ B hml hv
  obtain ⟨rfl, hsz, hP, hK, hD0, hE⟩ := hv
  have hx := B.exec
  have hb := B.bytes
  have hr := B.returns
  have hts := atoms_spec (ws := wsJ9_floorDiv_f86c9) B.pre
  have hown : s.vm.findClass RJ9 = some m.cls := findClass_of_methodNamed B.named
  have hlocks := B.notSynchronized
  subst hsz
  have hD := hD0.self (sz := s.heap.size)
  delta zQl zB
  generalize hAe : va_A [] s.heap.size = A at hD hE ⊢
  have hA : ∀ q : Nat, s.heap.size ≤ q → A q := fun q h => by rw [← hAe]; exact Or.inr h
  have hS : va_S A s.heap s.heap [] := va_S.rf
  have hl := lv_entry [.long x, .long y] (n := 6) (Nat.le_of_ble_eq_true rfl)
  rw [lg_entry_eq]
  generalize (lg_sl [.long x, .long y] ++ List.replicate (6 - (lg_sl [.long x, .long y]).length) Slot.unset).toArray = ls at hl ⊢
  have hl : lv_has ls 6 [(0, .long x), (2, .long y)] := hl
  refine lv_lload_n hx hb dJ9_floorDiv_f86c9_0 rfl (lv_at hl 0 rfl) ?_
  refine lv_lload_n hx hb dJ9_floorDiv_f86c9_1 rfl (lv_at hl 1 rfl) ?_
  refine lv_ldiv hx hb dJ9_floorDiv_f86c9_2 (by assumption) ?_
  refine lv_topl (fun x_1 ex_1 => ?_)
  refine lv_lstore (lv' := [(4, .long x_1), (0, .long x), (2, .long y)]) hx hb dJ9_floorDiv_f86c9_3 hl (by decide) rfl (fun ls hl => ?_)
  refine lv_lload_n hx hb dJ9_floorDiv_f86c9_5 rfl (lv_at hl 1 rfl) ?_
  refine lv_lload_n hx hb dJ9_floorDiv_f86c9_6 rfl (lv_at hl 2 rfl) ?_
  refine lv_lxor hx hb dJ9_floorDiv_f86c9_7 ?_
  refine lv_lconst (v := 0) hx hb dJ9_floorDiv_f86c9_8 (by decide) ?_
  refine W.lcmp hx hb dJ9_floorDiv_f86c9_9 ?_
  refine lv_if_ge (tgt := 27) hx hb dJ9_floorDiv_f86c9_10 (by decide) (fun c_2 => ?_) (fun c_2 => ?_)
  · skip
    have c_2 : 0 ≤ (x ^^^ y).toInt := zleL ((lg_cmp_ge _ _).mp c_2) (by decide) rfl
    refine lv_lload hx hb dJ9_floorDiv_f86c9_27 (lv_at hl 0 rfl) ?_
    have hP9 := hP.sub (ws' := []) [] rfl
    have hD9 := hD.sub (ws' := []) [] (by decide) rfl
    exact W.lret (v := x_1) hx hb hr (fun t9 ht9 hW9 => ⟨⟨x_1, [], rfl, ⟨by (subst ex_1; first | exact fdiv_a (by assumption) | exact fdiv_b (by assumption) | exact fdiv_c (by assumption) (by assumption)), rfl⟩, by rw [ht9]; exact hP9, hD9⟩, hS.F ht9⟩) hS.2.2 dJ9_floorDiv_f86c9_29
  · skip
    have c_2 : (x ^^^ y).toInt < 0 := znleL (mt (lg_cmp_ge _ _).mpr c_2) (by decide) rfl
    refine lv_lload hx hb dJ9_floorDiv_f86c9_13 (lv_at hl 0 rfl) ?_
    refine lv_lload_n hx hb dJ9_floorDiv_f86c9_15 rfl (lv_at hl 2 rfl) ?_
    refine lv_lmul hx hb dJ9_floorDiv_f86c9_16 ?_
    refine lv_lload_n hx hb dJ9_floorDiv_f86c9_17 rfl (lv_at hl 1 rfl) ?_
    refine W.lcmp hx hb dJ9_floorDiv_f86c9_18 ?_
    refine lv_if_eq (tgt := 27) hx hb dJ9_floorDiv_f86c9_19 (by decide) (fun c_3 => ?_) (fun c_3 => ?_)
    · skip
      have c_3 := zlg_eq c_3
      refine lv_lload hx hb dJ9_floorDiv_f86c9_27 (lv_at hl 0 rfl) ?_
      have hP9 := hP.sub (ws' := []) [] rfl
      have hD9 := hD.sub (ws' := []) [] (by decide) rfl
      exact W.lret (v := x_1) hx hb hr (fun t9 ht9 hW9 => ⟨⟨x_1, [], rfl, ⟨by (subst ex_1; first | exact fdiv_a (by assumption) | exact fdiv_b (by assumption) | exact fdiv_c (by assumption) (by assumption)), rfl⟩, by rw [ht9]; exact hP9, hD9⟩, hS.F ht9⟩) hS.2.2 dJ9_floorDiv_f86c9_29
    · skip
      have c_3 := zlg_ne c_3
      refine lv_lload hx hb dJ9_floorDiv_f86c9_22 (lv_at hl 0 rfl) ?_
      refine lv_lconst (v := 1) hx hb dJ9_floorDiv_f86c9_24 (by decide) ?_
      refine lv_lsub hx hb dJ9_floorDiv_f86c9_25 ?_
      have hP9 := hP.sub (ws' := []) [] rfl
      have hD9 := hD.sub (ws' := []) [] (by decide) rfl
      exact W.lret (v := x_1 - 1) hx hb hr (fun t9 ht9 hW9 => ⟨⟨(x_1 - 1), [], rfl, ⟨by (subst ex_1; first | exact fdiv_a (by assumption) | exact fdiv_b (by assumption) | exact fdiv_c (by assumption) (by assumption)), rfl⟩, by rw [ht9]; exact hP9, hD9⟩, hS.F ht9⟩) hS.2.2 dJ9_floorDiv_f86c9_26
set_option maxHeartbeats 4000000 in
set_option maxRecDepth 100000 in
theorem c_J9_floorDiv_7cf53 (l : Launch) (D : va_G) (k : Nat → ClassId) (sz : Nat) (x y : Int32) (hy : ¬ y = 0) : Met l yJ9_floorDiv_7cf53 wsJ9_floorDiv_7cf53 ({ frames := 0, cells := 0, slots := 0, locals := 0 } : Room) (va_Pc [.int x, .int y] (zPre D k [] sz zX0)) (zQi D [] sz (fdivI x y) (fun w : va_W => w = [])) 0 0 (va_A [] sz) := by
  refine va_MetF (cc := cJ9_floorDiv_7cf53) (maxL := 3) (ret := (some .int)) (by decide +kernel) rfl ?_
  intro p e s m args below meth c s₁ B hml hv
  obtain ⟨rfl, hsz, hP, hK, hD0, hE⟩ := hv
  have hx := B.exec
  have hb := B.bytes
  have hr := B.returns
  have hts := atoms_spec (ws := wsJ9_floorDiv_7cf53) B.pre
  have hown : s.vm.findClass RJ9 = some m.cls := findClass_of_methodNamed B.named
  have hlocks := B.notSynchronized
  subst hsz
  have hD := hD0.self (sz := s.heap.size)
  delta zQi zB
  generalize hAe : va_A [] s.heap.size = A at hD hE ⊢
  have hA : ∀ q : Nat, s.heap.size ≤ q → A q := fun q h => by rw [← hAe]; exact Or.inr h
  have hS : va_S A s.heap s.heap [] := va_S.rf
  have hl := lv_entry [.int x, .int y] (n := 3) (Nat.le_of_ble_eq_true rfl)
  rw [lg_entry_eq]
  generalize (lg_sl [.int x, .int y] ++ List.replicate (3 - (lg_sl [.int x, .int y]).length) Slot.unset).toArray = ls at hl ⊢
  have hl : lv_has ls 3 [(0, .int x), (1, .int y)] := hl
  refine lv_iload_n hx hb dJ9_floorDiv_7cf53_0 rfl (lv_at hl 0 rfl) ?_
  refine lv_iload_n hx hb dJ9_floorDiv_7cf53_1 rfl (lv_at hl 1 rfl) ?_
  refine lv_idiv hx hb dJ9_floorDiv_7cf53_2 (by assumption) ?_
  refine lv_topi (fun x_1 ex_1 => ?_)
  refine lv_istore_n (lv' := [(2, .int x_1), (0, .int x), (1, .int y)]) hx hb dJ9_floorDiv_7cf53_3 rfl hl (by decide) rfl (fun ls hl => ?_)
  refine lv_iload_n hx hb dJ9_floorDiv_7cf53_4 rfl (lv_at hl 1 rfl) ?_
  refine lv_iload_n hx hb dJ9_floorDiv_7cf53_5 rfl (lv_at hl 2 rfl) ?_
  refine lv_ixor hx hb dJ9_floorDiv_7cf53_6 ?_
  refine lv_if_ge (tgt := 21) hx hb dJ9_floorDiv_7cf53_7 (by decide) (fun c_2 => ?_) (fun c_2 => ?_)
  · skip
    have c_2 : 0 ≤ (x ^^^ y).toInt := zle c_2 (by decide) rfl
    refine lv_iload_n hx hb dJ9_floorDiv_7cf53_21 rfl (lv_at hl 0 rfl) ?_
    have hP9 := hP.sub (ws' := []) [] rfl
    have hD9 := hD.sub (ws' := []) [] (by decide) rfl
    exact W.iret (v := x_1) hx hb hr (fun t9 ht9 hW9 => ⟨⟨x_1, [], rfl, ⟨by (subst ex_1; first | exact fdivI_a (by assumption) | exact fdivI_b (by assumption) | exact fdivI_c (by assumption) (by assumption)), rfl⟩, by rw [ht9]; exact hP9, hD9⟩, hS.F ht9⟩) hS.2.2 dJ9_floorDiv_7cf53_22
  · skip
    have c_2 : (x ^^^ y).toInt < 0 := znle c_2 (by decide) rfl
    refine lv_iload_n hx hb dJ9_floorDiv_7cf53_10 rfl (lv_at hl 0 rfl) ?_
    refine lv_iload_n hx hb dJ9_floorDiv_7cf53_11 rfl (lv_at hl 2 rfl) ?_
    refine lv_imul hx hb dJ9_floorDiv_7cf53_12 ?_
    refine lv_iload_n hx hb dJ9_floorDiv_7cf53_13 rfl (lv_at hl 1 rfl) ?_
    refine lv_icmp_eq (tgt := 21) hx hb dJ9_floorDiv_7cf53_14 (by decide) (fun c_3 => ?_) (fun c_3 => ?_)
    · skip
      refine lv_iload_n hx hb dJ9_floorDiv_7cf53_21 rfl (lv_at hl 0 rfl) ?_
      have hP9 := hP.sub (ws' := []) [] rfl
      have hD9 := hD.sub (ws' := []) [] (by decide) rfl
      exact W.iret (v := x_1) hx hb hr (fun t9 ht9 hW9 => ⟨⟨x_1, [], rfl, ⟨by (subst ex_1; first | exact fdivI_a (by assumption) | exact fdivI_b (by assumption) | exact fdivI_c (by assumption) (by assumption)), rfl⟩, by rw [ht9]; exact hP9, hD9⟩, hS.F ht9⟩) hS.2.2 dJ9_floorDiv_7cf53_22
    · skip
      refine lv_iload_n hx hb dJ9_floorDiv_7cf53_17 rfl (lv_at hl 0 rfl) ?_
      refine lv_iconst (v := 1) hx hb dJ9_floorDiv_7cf53_18 (by decide) ?_
      refine lv_isub hx hb dJ9_floorDiv_7cf53_19 ?_
      have hP9 := hP.sub (ws' := []) [] rfl
      have hD9 := hD.sub (ws' := []) [] (by decide) rfl
      exact W.iret (v := x_1 - 1) hx hb hr (fun t9 ht9 hW9 => ⟨⟨(x_1 - 1), [], rfl, ⟨by (subst ex_1; first | exact fdivI_a (by assumption) | exact fdivI_b (by assumption) | exact fdivI_c (by assumption) (by assumption)), rfl⟩, by rw [ht9]; exact hP9, hD9⟩, hS.F ht9⟩) hS.2.2 dJ9_floorDiv_7cf53_20
set_option maxHeartbeats 4000000 in
set_option maxRecDepth 100000 in
theorem c_J7_fill_d0a16 (l : Launch) (D : va_G) (k : Nat → ClassId) (sz : Nat) (h n : Nat) (f : Nat → Int64) (v : Int64) (hn : n < 2 ^ 31) : Met l yJ7_fill_d0a16 wsJ7_fill_d0a16 ({ frames := 0, cells := 0, slots := 0, locals := 0 } : Room) (va_Pc [.ref h, .long v] (zPre D k [(h, zaJ k n f)] sz zX0)) (zQv D [(h, zaJ k n f)] sz (fun w : va_W => w = [(h, zaJ k n (zfill f v n))])) 0 0 (va_A [(h, zaJ k n f)] sz) := by
  refine va_MetF (cc := cJ7_fill_d0a16) (maxL := 5) (ret := none) (by decide +kernel) rfl ?_
  intro p e s m args below meth c s₁ B hml hv
  obtain ⟨rfl, hsz, hP, hK, hD0, hE⟩ := hv
  have hx := B.exec
  have hb := B.bytes
  have hr := B.returns
  have hts := atoms_spec (ws := wsJ7_fill_d0a16) B.pre
  have hown : s.vm.findClass RJ7 = some m.cls := findClass_of_methodNamed B.named
  have hlocks := B.notSynchronized
  subst hsz
  have hD := hD0.self (sz := s.heap.size)
  delta zQv zB
  generalize hAe : va_A [(h, zaJ k n f)] s.heap.size = A at hD hE ⊢
  have hA : ∀ q : Nat, s.heap.size ≤ q → A q := fun q h => by rw [← hAe]; exact Or.inr h
  have hS : va_S A s.heap s.heap [] := va_S.rf
  have hl := lv_entry [.ref h, .long v] (n := 5) (Nat.le_of_ble_eq_true rfl)
  rw [lg_entry_eq]
  generalize (lg_sl [.ref h, .long v] ++ List.replicate (5 - (lg_sl [.ref h, .long v]).length) Slot.unset).toArray = ls at hl ⊢
  have hl : lv_has ls 5 [(0, .ref h), (1, .long v)] := hl
  refine lv_iconst (v := 0) hx hb dJ7_fill_d0a16_0 (by decide) ?_
  refine lv_istore_n (lv' := [(3, .int 0), (0, .ref h), (1, .long v)]) hx hb dJ7_fill_d0a16_1 rfl hl (by decide) rfl (fun ls hl => ?_)
  refine lv_aload_n hx hb dJ7_fill_d0a16_2 rfl (lv_at hl 1 rfl) ?_
  refine va_alen hx hb hK hP 0 0 rfl rfl (v := nI n) rfl dJ7_fill_d0a16_3 ?_
  refine lv_istore (lv' := [(4, .int (nI n)), (3, .int 0), (0, .ref h), (1, .long v)]) hx hb dJ7_fill_d0a16_4 hl (by decide) rfl (fun ls hl => ?_)
  have hl : lv_has ls 5 [(4, .int (nI n)), (3, .int (nI 0)), (0, .ref h), (1, .long v)] := hl
  have hP := z_congJ hP 0 rfl (g := zfill f v 0) (fun i _ => zfill_0 f v i) (ws' := [(h, zaJ k n (zfill f v 0))]) rfl
  have hD := z_congDJ hD 0 rfl (g := zfill f v 0) (ws' := [(h, zaJ k n (zfill f v 0))]) rfl
  refine z_loop (St := Nat) (fun st9 => st9 ≤ n) (fun st9 => [(h, zaJ k n (zfill f v st9))]) (fun st9 => [(0, .ref h), (1, .long v), (3, .int (nI st9)), (4, .int (nI n))]) (fun st9 => n - st9) 0 (Nat.zero_le n) hP hD hS (lv_sub hl [2, 3, 1, 0] rfl) ?_
  intro j hj_6 H locs ls hP hD hS hl ih_6
  have hj_6 : j ≤ n := hj_6
  have hP : va_P D vwCl [(h, zaJ k n (zfill f v j))] H := hP
  have hD : va_D A [(h, zaJ k n (zfill f v j))] := hD
  have hl : lv_has ls 5 [(0, .ref h), (1, .long v), (3, .int (nI j)), (4, .int (nI n))] := hl
  refine lv_iload_n hx hb dJ7_fill_d0a16_6 rfl (lv_at hl 2 rfl) ?_
  refine lv_iload hx hb dJ7_fill_d0a16_7 (lv_at hl 3 rfl) ?_
  refine lv_icmp_ge (tgt := 22) hx hb dJ7_fill_d0a16_9 (by decide) (fun c_1 => ?_) (fun c_1 => ?_)
  · skip
    have c_1 : ((n : Nat) : Int) ≤ ((j : Nat) : Int) := zle c_1 (nI_toInt (by omega)) (nI_toInt (by omega))
    have hP := z_congJ hP 0 rfl (g := zfill f v n) (by intro i hi; show zfill f v j i = zfill f v n i; rw [show j = n by omega]) (ws' := [(h, zaJ k n (zfill f v n))]) rfl
    have hD := z_congDJ hD 0 rfl (g := zfill f v n) (ws' := [(h, zaJ k n (zfill f v n))]) rfl
    have hP9 := hP.sub (ws' := [(h, zaJ k n (zfill f v n))]) [0] rfl
    have hD9 := hD.sub (ws' := [(h, zaJ k n (zfill f v n))]) [0] (by decide) rfl
    exact W.vret hx hb hr (fun t9 ht9 hW9 => ⟨⟨[(h, zaJ k n (zfill f v n))], rfl, rfl, by rw [ht9]; exact hP9, hD9⟩, hS.F ht9⟩) hS.2.2 dJ7_fill_d0a16_22
  · skip
    have c_1 : ((j : Nat) : Int) < ((n : Nat) : Int) := znle c_1 (nI_toInt (by omega)) (nI_toInt (by omega))
    refine lv_aload_n hx hb dJ7_fill_d0a16_12 rfl (lv_at hl 0 rfl) ?_
    refine lv_iload_n hx hb dJ7_fill_d0a16_13 rfl (lv_at hl 2 rfl) ?_
    refine lv_lload_n hx hb dJ7_fill_d0a16_14 rfl (lv_at hl 1 rfl) ?_
    refine z_last hx hb hK hP hD hS 0 rfl j (zxn (by omega)) (by omega) (ws' := [(h, zaJ k n (vp_updL (zfill f v j) j v))]) rfl dJ7_fill_d0a16_15 (fun H locs hP hD hS => ?_)
    refine lv_iinc (v := nI (j + 1)) (lv' := [(3, .int (nI (j + 1))), (0, .ref h), (1, .long v), (4, .int (nI n))]) hx hb dJ7_fill_d0a16_16 hl (k := 2) rfl (nI_1 _) (by decide) rfl (fun ls hl => ?_)
    refine lv_goto (tgt := 6) hx hb dJ7_fill_d0a16_19 (by decide) ?_
    have hP := z_congJ hP 0 rfl (g := zfill f v (j + 1)) (fun i _ => zfill_sJ f v j i) (ws' := [(h, zaJ k n (zfill f v (j + 1)))]) rfl
    have hD := z_congDJ hD 0 rfl (g := zfill f v (j + 1)) (ws' := [(h, zaJ k n (zfill f v (j + 1)))]) rfl
    exact ih_6 (j + 1) (by omega) (by omega) _ _ _ hP hD hS (lv_sub hl [1, 2, 0, 3] rfl)
set_option maxHeartbeats 4000000 in
set_option maxRecDepth 100000 in
theorem c_J7_fill_53178 (l : Launch) (D : va_G) (k : Nat → ClassId) (sz : Nat) (h n : Nat) (f : Nat → Int32) (v : Int32) (hn : n < 2 ^ 31) : Met l yJ7_fill_53178 wsJ7_fill_53178 ({ frames := 0, cells := 0, slots := 0, locals := 0 } : Room) (va_Pc [.ref h, .int v] (zPre D k [(h, zaI k n f)] sz zX0)) (zQv D [(h, zaI k n f)] sz (fun w : va_W => w = [(h, zaI k n (zfill f v n))])) 0 0 (va_A [(h, zaI k n f)] sz) := by
  refine va_MetF (cc := cJ7_fill_53178) (maxL := 4) (ret := none) (by decide +kernel) rfl ?_
  intro p e s m args below meth c s₁ B hml hv
  obtain ⟨rfl, hsz, hP, hK, hD0, hE⟩ := hv
  have hx := B.exec
  have hb := B.bytes
  have hr := B.returns
  have hts := atoms_spec (ws := wsJ7_fill_53178) B.pre
  have hown : s.vm.findClass RJ7 = some m.cls := findClass_of_methodNamed B.named
  have hlocks := B.notSynchronized
  subst hsz
  have hD := hD0.self (sz := s.heap.size)
  delta zQv zB
  generalize hAe : va_A [(h, zaI k n f)] s.heap.size = A at hD hE ⊢
  have hA : ∀ q : Nat, s.heap.size ≤ q → A q := fun q h => by rw [← hAe]; exact Or.inr h
  have hS : va_S A s.heap s.heap [] := va_S.rf
  have hl := lv_entry [.ref h, .int v] (n := 4) (Nat.le_of_ble_eq_true rfl)
  rw [lg_entry_eq]
  generalize (lg_sl [.ref h, .int v] ++ List.replicate (4 - (lg_sl [.ref h, .int v]).length) Slot.unset).toArray = ls at hl ⊢
  have hl : lv_has ls 4 [(0, .ref h), (1, .int v)] := hl
  refine lv_iconst (v := 0) hx hb dJ7_fill_53178_0 (by decide) ?_
  refine lv_istore_n (lv' := [(2, .int 0), (0, .ref h), (1, .int v)]) hx hb dJ7_fill_53178_1 rfl hl (by decide) rfl (fun ls hl => ?_)
  refine lv_aload_n hx hb dJ7_fill_53178_2 rfl (lv_at hl 1 rfl) ?_
  refine va_alen hx hb hK hP 0 1 rfl rfl (v := nI n) rfl dJ7_fill_53178_3 ?_
  refine lv_istore_n (lv' := [(3, .int (nI n)), (2, .int 0), (0, .ref h), (1, .int v)]) hx hb dJ7_fill_53178_4 rfl hl (by decide) rfl (fun ls hl => ?_)
  have hl : lv_has ls 4 [(3, .int (nI n)), (2, .int (nI 0)), (0, .ref h), (1, .int v)] := hl
  have hP := z_congI hP 0 rfl (g := zfill f v 0) (fun i _ => zfill_0 f v i) (ws' := [(h, zaI k n (zfill f v 0))]) rfl
  have hD := z_congDI hD 0 rfl (g := zfill f v 0) (ws' := [(h, zaI k n (zfill f v 0))]) rfl
  refine z_loop (St := Nat) (fun st9 => st9 ≤ n) (fun st9 => [(h, zaI k n (zfill f v st9))]) (fun st9 => [(0, .ref h), (1, .int v), (2, .int (nI st9)), (3, .int (nI n))]) (fun st9 => n - st9) 0 (Nat.zero_le n) hP hD hS (lv_sub hl [2, 3, 1, 0] rfl) ?_
  intro j hj_5 H locs ls hP hD hS hl ih_5
  have hj_5 : j ≤ n := hj_5
  have hP : va_P D vwCl [(h, zaI k n (zfill f v j))] H := hP
  have hD : va_D A [(h, zaI k n (zfill f v j))] := hD
  have hl : lv_has ls 4 [(0, .ref h), (1, .int v), (2, .int (nI j)), (3, .int (nI n))] := hl
  refine lv_iload_n hx hb dJ7_fill_53178_5 rfl (lv_at hl 2 rfl) ?_
  refine lv_iload_n hx hb dJ7_fill_53178_6 rfl (lv_at hl 3 rfl) ?_
  refine lv_icmp_ge (tgt := 20) hx hb dJ7_fill_53178_7 (by decide) (fun c_1 => ?_) (fun c_1 => ?_)
  · skip
    have c_1 : ((n : Nat) : Int) ≤ ((j : Nat) : Int) := zle c_1 (nI_toInt (by omega)) (nI_toInt (by omega))
    have hP := z_congI hP 0 rfl (g := zfill f v n) (by intro i hi; show zfill f v j i = zfill f v n i; rw [show j = n by omega]) (ws' := [(h, zaI k n (zfill f v n))]) rfl
    have hD := z_congDI hD 0 rfl (g := zfill f v n) (ws' := [(h, zaI k n (zfill f v n))]) rfl
    have hP9 := hP.sub (ws' := [(h, zaI k n (zfill f v n))]) [0] rfl
    have hD9 := hD.sub (ws' := [(h, zaI k n (zfill f v n))]) [0] (by decide) rfl
    exact W.vret hx hb hr (fun t9 ht9 hW9 => ⟨⟨[(h, zaI k n (zfill f v n))], rfl, rfl, by rw [ht9]; exact hP9, hD9⟩, hS.F ht9⟩) hS.2.2 dJ7_fill_53178_20
  · skip
    have c_1 : ((j : Nat) : Int) < ((n : Nat) : Int) := znle c_1 (nI_toInt (by omega)) (nI_toInt (by omega))
    refine lv_aload_n hx hb dJ7_fill_53178_10 rfl (lv_at hl 0 rfl) ?_
    refine lv_iload_n hx hb dJ7_fill_53178_11 rfl (lv_at hl 2 rfl) ?_
    refine lv_iload_n hx hb dJ7_fill_53178_12 rfl (lv_at hl 1 rfl) ?_
    refine z_iast hx hb hK hP hD hS 0 rfl j (zxn (by omega)) (by omega) (ws' := [(h, zaI k n (upd (zfill f v j) j v))]) rfl dJ7_fill_53178_13 (fun H locs hP hD hS => ?_)
    refine lv_iinc (v := nI (j + 1)) (lv' := [(2, .int (nI (j + 1))), (0, .ref h), (1, .int v), (3, .int (nI n))]) hx hb dJ7_fill_53178_14 hl (k := 2) rfl (nI_1 _) (by decide) rfl (fun ls hl => ?_)
    refine lv_goto (tgt := 5) hx hb dJ7_fill_53178_17 (by decide) ?_
    have hP := z_congI hP 0 rfl (g := zfill f v (j + 1)) (fun i _ => zfill_sI f v j i) (ws' := [(h, zaI k n (zfill f v (j + 1)))]) rfl
    have hD := z_congDI hD 0 rfl (g := zfill f v (j + 1)) (ws' := [(h, zaI k n (zfill f v (j + 1)))]) rfl
    exact ih_5 (j + 1) (by omega) (by omega) _ _ _ hP hD hS (lv_sub hl [1, 2, 0, 3] rfl)
set_option maxHeartbeats 4000000 in
set_option maxRecDepth 100000 in
theorem c_X5_isAxis (l : Launch) (D : va_G) (k : Nat → ClassId) (sz : Nat) (a : Int32) : Met l yX5_isAxis wsX5_isAxis ({ frames := 0, cells := 0, slots := 0, locals := 0 } : Room) (va_Pc [.int a] (zPre D k [] sz zX0)) (zQi D [] sz (zb (zin a 0 2)) (fun w : va_W => w = [])) 0 0 (va_A [] sz) := by
  refine Met.ofW (cc := cX5_isAxis) (maxL := 1) (ret := (some .boolean)) (by decide) rfl ?_
  intro p e s m args below meth c s₁ B hml hv
  obtain ⟨rfl, hsz, hP, hK, hD0, hE⟩ := hv
  have hx := B.exec
  have hb := B.bytes
  have hr := B.returns
  have hts := atoms_spec (ws := wsX5_isAxis) B.pre
  have hown : s.vm.findClass RX5 = some m.cls := findClass_of_methodNamed B.named
  have hlocks := B.notSynchronized
  subst hsz
  have hD := hD0.self (sz := s.heap.size)
  delta zQi zB
  generalize hAe : va_A [] s.heap.size = A at hD hE ⊢
  have hA : ∀ q : Nat, s.heap.size ≤ q → A q := fun q h => by rw [← hAe]; exact Or.inr h
  have hS : va_S A s.heap s.heap [] := va_S.rf
  have hl := lv_entry [.int a] (n := 1) (Nat.le_of_ble_eq_true rfl)
  rw [lg_entry_eq]
  generalize (lg_sl [.int a] ++ List.replicate (1 - (lg_sl [.int a]).length) Slot.unset).toArray = ls at hl ⊢
  have hl : lv_has ls 1 [(0, .int a)] := hl
  refine lv_iload_n hx hb dX5_isAxis_0 rfl (lv_at hl 0 rfl) ?_
  refine lv_if_lt (tgt := 13) hx hb dX5_isAxis_1 (by decide) (fun c_1 => ?_) (fun c_1 => ?_)
  · skip
    have c_1 : a.toInt < 0 := zlt c_1 rfl (by decide)
    refine lv_iconst (v := 0) hx hb dX5_isAxis_13 (by decide) ?_
    have hP9 := hP.sub (ws' := []) [] rfl
    have hD9 := hD.sub (ws' := []) [] (by decide) rfl
    exact W.zret (v := 0) hx hb hr rfl (fun t9 ht9 hW9 => ⟨⟨0, [], rfl, ⟨by (exact zb_f (zin_f (by omega))), rfl⟩, by rw [ht9]; exact hP9, hD9⟩, hS.F ht9⟩) hS.2.2 dX5_isAxis_14
  · skip
    have c_1 : 0 ≤ a.toInt := znlt c_1 rfl (by decide)
    refine lv_iload_n hx hb dX5_isAxis_4 rfl (lv_at hl 0 rfl) ?_
    refine lv_iconst (v := 3) hx hb dX5_isAxis_5 (by decide) ?_
    refine lv_icmp_ge (tgt := 13) hx hb dX5_isAxis_6 (by decide) (fun c_2 => ?_) (fun c_2 => ?_)
    · skip
      have c_2 : 3 ≤ a.toInt := zle c_2 (by decide) rfl
      refine lv_iconst (v := 0) hx hb dX5_isAxis_13 (by decide) ?_
      have hP9 := hP.sub (ws' := []) [] rfl
      have hD9 := hD.sub (ws' := []) [] (by decide) rfl
      exact W.zret (v := 0) hx hb hr rfl (fun t9 ht9 hW9 => ⟨⟨0, [], rfl, ⟨by (exact zb_f (zin_f (by omega))), rfl⟩, by rw [ht9]; exact hP9, hD9⟩, hS.F ht9⟩) hS.2.2 dX5_isAxis_14
    · skip
      have c_2 : a.toInt < 3 := znle c_2 (by decide) rfl
      refine lv_iconst (v := 1) hx hb dX5_isAxis_9 (by decide) ?_
      refine lv_goto (tgt := 14) hx hb dX5_isAxis_10 (by decide) ?_
      have hP9 := hP.sub (ws' := []) [] rfl
      have hD9 := hD.sub (ws' := []) [] (by decide) rfl
      exact W.zret (v := 1) hx hb hr rfl (fun t9 ht9 hW9 => ⟨⟨1, [], rfl, ⟨by (exact zb_t (zin_t (by omega))), rfl⟩, by rw [ht9]; exact hP9, hD9⟩, hS.F ht9⟩) hS.2.2 dX5_isAxis_14
set_option maxHeartbeats 4000000 in
set_option maxRecDepth 100000 in
theorem c_X5_isBetween (l : Launch) (D : va_G) (k : Nat → ClassId) (sz : Nat) (v a b : Int32) : Met l yX5_isBetween wsX5_isBetween ({ frames := 0, cells := 0, slots := 0, locals := 0 } : Room) (va_Pc [.int v, .int a, .int b] (zPre D k [] sz zX0)) (zQi D [] sz (zb (zin v (Int32.toInt a) (Int32.toInt b))) (fun w : va_W => w = [])) 0 0 (va_A [] sz) := by
  refine Met.ofW (cc := cX5_isBetween) (maxL := 3) (ret := (some .boolean)) (by decide) rfl ?_
  intro p e s m args below meth c s₁ B hml hv
  obtain ⟨rfl, hsz, hP, hK, hD0, hE⟩ := hv
  have hx := B.exec
  have hb := B.bytes
  have hr := B.returns
  have hts := atoms_spec (ws := wsX5_isBetween) B.pre
  have hown : s.vm.findClass RX5 = some m.cls := findClass_of_methodNamed B.named
  have hlocks := B.notSynchronized
  subst hsz
  have hD := hD0.self (sz := s.heap.size)
  delta zQi zB
  generalize hAe : va_A [] s.heap.size = A at hD hE ⊢
  have hA : ∀ q : Nat, s.heap.size ≤ q → A q := fun q h => by rw [← hAe]; exact Or.inr h
  have hS : va_S A s.heap s.heap [] := va_S.rf
  have hl := lv_entry [.int v, .int a, .int b] (n := 3) (Nat.le_of_ble_eq_true rfl)
  rw [lg_entry_eq]
  generalize (lg_sl [.int v, .int a, .int b] ++ List.replicate (3 - (lg_sl [.int v, .int a, .int b]).length) Slot.unset).toArray = ls at hl ⊢
  have hl : lv_has ls 3 [(0, .int v), (1, .int a), (2, .int b)] := hl
  refine lv_iload_n hx hb dX5_isBetween_0 rfl (lv_at hl 0 rfl) ?_
  refine lv_iload_n hx hb dX5_isBetween_1 rfl (lv_at hl 1 rfl) ?_
  refine lv_icmp_lt (tgt := 14) hx hb dX5_isBetween_2 (by decide) (fun c_1 => ?_) (fun c_1 => ?_)
  · skip
    have c_1 : v.toInt < a.toInt := zlt c_1 rfl rfl
    refine lv_iconst (v := 0) hx hb dX5_isBetween_14 (by decide) ?_
    have hP9 := hP.sub (ws' := []) [] rfl
    have hD9 := hD.sub (ws' := []) [] (by decide) rfl
    exact W.zret (v := 0) hx hb hr rfl (fun t9 ht9 hW9 => ⟨⟨0, [], rfl, ⟨by (exact zb_f (zin_f (by omega))), rfl⟩, by rw [ht9]; exact hP9, hD9⟩, hS.F ht9⟩) hS.2.2 dX5_isBetween_15
  · skip
    have c_1 : a.toInt ≤ v.toInt := znlt c_1 rfl rfl
    refine lv_iload_n hx hb dX5_isBetween_5 rfl (lv_at hl 0 rfl) ?_
    refine lv_iload_n hx hb dX5_isBetween_6 rfl (lv_at hl 2 rfl) ?_
    refine lv_icmp_gt (tgt := 14) hx hb dX5_isBetween_7 (by decide) (fun c_2 => ?_) (fun c_2 => ?_)
    · skip
      have c_2 : b.toInt < v.toInt := zlt c_2 rfl rfl
      refine lv_iconst (v := 0) hx hb dX5_isBetween_14 (by decide) ?_
      have hP9 := hP.sub (ws' := []) [] rfl
      have hD9 := hD.sub (ws' := []) [] (by decide) rfl
      exact W.zret (v := 0) hx hb hr rfl (fun t9 ht9 hW9 => ⟨⟨0, [], rfl, ⟨by (exact zb_f (zin_f (by omega))), rfl⟩, by rw [ht9]; exact hP9, hD9⟩, hS.F ht9⟩) hS.2.2 dX5_isBetween_15
    · skip
      have c_2 : v.toInt ≤ b.toInt := znlt c_2 rfl rfl
      refine lv_iconst (v := 1) hx hb dX5_isBetween_10 (by decide) ?_
      refine lv_goto (tgt := 15) hx hb dX5_isBetween_11 (by decide) ?_
      have hP9 := hP.sub (ws' := []) [] rfl
      have hD9 := hD.sub (ws' := []) [] (by decide) rfl
      exact W.zret (v := 1) hx hb hr rfl (fun t9 ht9 hW9 => ⟨⟨1, [], rfl, ⟨by (exact zb_t (zin_t (by omega))), rfl⟩, by rw [ht9]; exact hP9, hD9⟩, hS.F ht9⟩) hS.2.2 dX5_isBetween_15
set_option maxHeartbeats 4000000 in
set_option maxRecDepth 100000 in
theorem c_X5_isWithin (l : Launch) (D : va_G) (k : Nat → ClassId) (sz : Nat) (v lm : Int64) : Met l yX5_isWithin wsX5_isWithin ({ frames := 0, cells := 0, slots := 0, locals := 0 } : Room) (va_Pc [.long v, .long lm] (zPre D k [] sz zX0)) (zQi D [] sz (zb (zinL v (Int64.toInt (-lm)) (Int64.toInt lm))) (fun w : va_W => w = [])) 0 0 (va_A [] sz) := by
  refine Met.ofW (cc := cX5_isWithin) (maxL := 4) (ret := (some .boolean)) (by decide) rfl ?_
  intro p e s m args below meth c s₁ B hml hv
  obtain ⟨rfl, hsz, hP, hK, hD0, hE⟩ := hv
  have hx := B.exec
  have hb := B.bytes
  have hr := B.returns
  have hts := atoms_spec (ws := wsX5_isWithin) B.pre
  have hown : s.vm.findClass RX5 = some m.cls := findClass_of_methodNamed B.named
  have hlocks := B.notSynchronized
  subst hsz
  have hD := hD0.self (sz := s.heap.size)
  delta zQi zB
  generalize hAe : va_A [] s.heap.size = A at hD hE ⊢
  have hA : ∀ q : Nat, s.heap.size ≤ q → A q := fun q h => by rw [← hAe]; exact Or.inr h
  have hS : va_S A s.heap s.heap [] := va_S.rf
  have hl := lv_entry [.long v, .long lm] (n := 4) (Nat.le_of_ble_eq_true rfl)
  rw [lg_entry_eq]
  generalize (lg_sl [.long v, .long lm] ++ List.replicate (4 - (lg_sl [.long v, .long lm]).length) Slot.unset).toArray = ls at hl ⊢
  have hl : lv_has ls 4 [(0, .long v), (2, .long lm)] := hl
  refine lv_lload_n hx hb dX5_isWithin_0 rfl (lv_at hl 0 rfl) ?_
  refine lv_lload_n hx hb dX5_isWithin_1 rfl (lv_at hl 1 rfl) ?_
  refine lv_lneg hx hb dX5_isWithin_2 ?_
  refine W.lcmp hx hb dX5_isWithin_3 ?_
  refine lv_if_lt (tgt := 17) hx hb dX5_isWithin_4 (by decide) (fun c_1 => ?_) (fun c_1 => ?_)
  · skip
    have c_1 : v.toInt < (-lm).toInt := zltL ((lg_cmp_lt _ _).mp c_1) rfl rfl
    refine lv_iconst (v := 0) hx hb dX5_isWithin_17 (by decide) ?_
    have hP9 := hP.sub (ws' := []) [] rfl
    have hD9 := hD.sub (ws' := []) [] (by decide) rfl
    exact W.zret (v := 0) hx hb hr rfl (fun t9 ht9 hW9 => ⟨⟨0, [], rfl, ⟨by (exact zb_f (zinL_f (by omega))), rfl⟩, by rw [ht9]; exact hP9, hD9⟩, hS.F ht9⟩) hS.2.2 dX5_isWithin_18
  · skip
    have c_1 : (-lm).toInt ≤ v.toInt := znltL (mt (lg_cmp_lt _ _).mpr c_1) rfl rfl
    refine lv_lload_n hx hb dX5_isWithin_7 rfl (lv_at hl 0 rfl) ?_
    refine lv_lload_n hx hb dX5_isWithin_8 rfl (lv_at hl 1 rfl) ?_
    refine W.lcmp hx hb dX5_isWithin_9 ?_
    refine lv_if_gt (tgt := 17) hx hb dX5_isWithin_10 (by decide) (fun c_2 => ?_) (fun c_2 => ?_)
    · skip
      have c_2 : lm.toInt < v.toInt := zltL ((lg_cmp_gt _ _).mp c_2) rfl rfl
      refine lv_iconst (v := 0) hx hb dX5_isWithin_17 (by decide) ?_
      have hP9 := hP.sub (ws' := []) [] rfl
      have hD9 := hD.sub (ws' := []) [] (by decide) rfl
      exact W.zret (v := 0) hx hb hr rfl (fun t9 ht9 hW9 => ⟨⟨0, [], rfl, ⟨by (exact zb_f (zinL_f (by omega))), rfl⟩, by rw [ht9]; exact hP9, hD9⟩, hS.F ht9⟩) hS.2.2 dX5_isWithin_18
    · skip
      have c_2 : v.toInt ≤ lm.toInt := znltL (mt (lg_cmp_gt _ _).mpr c_2) rfl rfl
      refine lv_iconst (v := 1) hx hb dX5_isWithin_13 (by decide) ?_
      refine lv_goto (tgt := 18) hx hb dX5_isWithin_14 (by decide) ?_
      have hP9 := hP.sub (ws' := []) [] rfl
      have hD9 := hD.sub (ws' := []) [] (by decide) rfl
      exact W.zret (v := 1) hx hb hr rfl (fun t9 ht9 hW9 => ⟨⟨1, [], rfl, ⟨by (exact zb_t (zinL_t (by omega))), rfl⟩, by rw [ht9]; exact hP9, hD9⟩, hS.F ht9⟩) hS.2.2 dX5_isWithin_18
set_option maxHeartbeats 4000000 in
set_option maxRecDepth 100000 in
theorem c_X5_limited (l : Launch) (D : va_G) (k : Nat → ClassId) (sz : Nat) (v lm : Int64) : Met l yX5_limited wsX5_limited ({ frames := 1, cells := 0, slots := 0, locals := 17 } : Room) (va_Pc [.long v, .long lm] (zPre D k [] sz zX0)) (zQl D [] sz (zlim v lm) (fun w : va_W => w = [])) 0 0 (va_A [] sz) := by
  refine Met.ofW (cc := cX5_limited) (maxL := 4) (ret := (some .long)) (by decide) rfl ?_
  intro p e s m args below meth c s₁ B hml hv
  obtain ⟨rfl, hsz, hP, hK, hD0, hE⟩ := hv
  have hx := B.exec
  have hb := B.bytes
  have hr := B.returns
  have hts := atoms_spec (ws := wsX5_limited) B.pre
  have hown : s.vm.findClass RX5 = some m.cls := findClass_of_methodNamed B.named
  have hlocks := B.notSynchronized
  subst hsz
  have hD := hD0.self (sz := s.heap.size)
  delta zQl zB
  generalize hAe : va_A [] s.heap.size = A at hD hE ⊢
  have hA : ∀ q : Nat, s.heap.size ≤ q → A q := fun q h => by rw [← hAe]; exact Or.inr h
  have hS : va_S A s.heap s.heap [] := va_S.rf
  have hl := lv_entry [.long v, .long lm] (n := 4) (Nat.le_of_ble_eq_true rfl)
  rw [lg_entry_eq]
  generalize (lg_sl [.long v, .long lm] ++ List.replicate (4 - (lg_sl [.long v, .long lm]).length) Slot.unset).toArray = ls at hl ⊢
  have hl : lv_has ls 4 [(0, .long v), (2, .long lm)] := hl
  refine lv_lload_n hx hb dX5_limited_0 rfl (lv_at hl 1 rfl) ?_
  refine lv_lneg hx hb dX5_limited_1 ?_
  refine lv_lload_n hx hb dX5_limited_2 rfl (lv_at hl 1 rfl) ?_
  refine lv_lload_n hx hb dX5_limited_3 rfl (lv_at hl 0 rfl) ?_
  refine va_mmin_long hx hb (hml.trans hl.1.symm) hown (zw hts 1 rfl) (zw hts 2 rfl) (zw hts 3 rfl) (zw hts 4 rfl) (Nat.le_of_ble_eq_true rfl) (Nat.le_of_ble_eq_true rfl) (Nat.zero_le _) (Nat.zero_le _) dX5_limited_4 ?_
  refine va_mmax_long hx hb (hml.trans hl.1.symm) hown (zw hts 5 rfl) (zw hts 6 rfl) (zw hts 3 rfl) (zw hts 7 rfl) (Nat.le_of_ble_eq_true rfl) (Nat.le_of_ble_eq_true rfl) (Nat.zero_le _) (Nat.zero_le _) dX5_limited_7 ?_
  have hP9 := hP.sub (ws' := []) [] rfl
  have hD9 := hD.sub (ws' := []) [] (by decide) rfl
  exact W.lret (v := zmax (-lm) (zmin lm v)) hx hb hr (fun t9 ht9 hW9 => ⟨⟨(zmax (-lm) (zmin lm v)), [], rfl, ⟨by rfl, rfl⟩, by rw [ht9]; exact hP9, hD9⟩, hS.F ht9⟩) hS.2.2 dX5_limited_10
set_option maxHeartbeats 4000000 in
set_option maxRecDepth 100000 in
theorem c_X5_at (l : Launch) (D : va_G) (k : Nat → ClassId) (sz : Nat) (h n : Nat) (f : Nat → Int64) (i : Int32) (hn : n < 2 ^ 31) : Met l yX5_at wsX5_at ({ frames := 0, cells := 0, slots := 0, locals := 0 } : Room) (va_Pc [.ref h, .int i] (zPre D k [(h, zaJ k n f)] sz zX0)) (zQl D [(h, zaJ k n f)] sz (if zin i 0 ((n : Int) - 1) then f i.toNatClampNeg else 0) (fun w : va_W => w = [(h, zaJ k n f)])) 0 0 (va_A [(h, zaJ k n f)] sz) := by
  refine Met.ofW (cc := cX5_at) (maxL := 2) (ret := (some .long)) (by decide) rfl ?_
  intro p e s m args below meth c s₁ B hml hv
  obtain ⟨rfl, hsz, hP, hK, hD0, hE⟩ := hv
  have hx := B.exec
  have hb := B.bytes
  have hr := B.returns
  have hts := atoms_spec (ws := wsX5_at) B.pre
  have hown : s.vm.findClass RX5 = some m.cls := findClass_of_methodNamed B.named
  have hlocks := B.notSynchronized
  subst hsz
  have hD := hD0.self (sz := s.heap.size)
  delta zQl zB
  generalize hAe : va_A [(h, zaJ k n f)] s.heap.size = A at hD hE ⊢
  have hA : ∀ q : Nat, s.heap.size ≤ q → A q := fun q h => by rw [← hAe]; exact Or.inr h
  have hS : va_S A s.heap s.heap [] := va_S.rf
  have hl := lv_entry [.ref h, .int i] (n := 2) (Nat.le_of_ble_eq_true rfl)
  rw [lg_entry_eq]
  generalize (lg_sl [.ref h, .int i] ++ List.replicate (2 - (lg_sl [.ref h, .int i]).length) Slot.unset).toArray = ls at hl ⊢
  have hl : lv_has ls 2 [(0, .ref h), (1, .int i)] := hl
  refine lv_iload_n hx hb dX5_at_0 rfl (lv_at hl 1 rfl) ?_
  refine lv_if_lt (tgt := 16) hx hb dX5_at_1 (by decide) (fun c_1 => ?_) (fun c_1 => ?_)
  · skip
    have c_1 : i.toInt < 0 := zlt c_1 rfl (by decide)
    refine lv_lconst (v := 0) hx hb dX5_at_16 (by decide) ?_
    have hP9 := hP.sub (ws' := [(h, zaJ k n f)]) [0] rfl
    have hD9 := hD.sub (ws' := [(h, zaJ k n f)]) [0] (by decide) rfl
    exact W.lret (v := 0) hx hb hr (fun t9 ht9 hW9 => ⟨⟨0, [(h, zaJ k n f)], rfl, ⟨by (rw [if_neg (by rw [zin_f (by omega)]; decide)]), rfl⟩, by rw [ht9]; exact hP9, hD9⟩, hS.F ht9⟩) hS.2.2 dX5_at_17
  · skip
    have c_1 : 0 ≤ i.toInt := znlt c_1 rfl (by decide)
    refine lv_iload_n hx hb dX5_at_4 rfl (lv_at hl 1 rfl) ?_
    refine lv_aload_n hx hb dX5_at_5 rfl (lv_at hl 0 rfl) ?_
    refine va_alen hx hb hK hP 0 0 rfl rfl (v := nI n) rfl dX5_at_6 ?_
    refine lv_icmp_ge (tgt := 16) hx hb dX5_at_7 (by decide) (fun c_2 => ?_) (fun c_2 => ?_)
    · skip
      have c_2 : ((n : Nat) : Int) ≤ i.toInt := zle c_2 (nI_toInt (by omega)) rfl
      refine lv_lconst (v := 0) hx hb dX5_at_16 (by decide) ?_
      have hP9 := hP.sub (ws' := [(h, zaJ k n f)]) [0] rfl
      have hD9 := hD.sub (ws' := [(h, zaJ k n f)]) [0] (by decide) rfl
      exact W.lret (v := 0) hx hb hr (fun t9 ht9 hW9 => ⟨⟨0, [(h, zaJ k n f)], rfl, ⟨by (rw [if_neg (by rw [zin_f (by omega)]; decide)]), rfl⟩, by rw [ht9]; exact hP9, hD9⟩, hS.F ht9⟩) hS.2.2 dX5_at_17
    · skip
      have c_2 : i.toInt < ((n : Nat) : Int) := znle c_2 (nI_toInt (by omega)) rfl
      refine lv_aload_n hx hb dX5_at_10 rfl (lv_at hl 0 rfl) ?_
      refine lv_iload_n hx hb dX5_at_11 rfl (lv_at hl 1 rfl) ?_
      refine z_lald hx hb hK hP 0 rfl i.toNatClampNeg (zxi (by omega)) (zxl (by omega) (by omega)) (v := f i.toNatClampNeg) rfl dX5_at_12 ?_
      refine lv_goto (tgt := 17) hx hb dX5_at_13 (by decide) ?_
      have hP9 := hP.sub (ws' := [(h, zaJ k n f)]) [0] rfl
      have hD9 := hD.sub (ws' := [(h, zaJ k n f)]) [0] (by decide) rfl
      exact W.lret (v := f i.toNatClampNeg) hx hb hr (fun t9 ht9 hW9 => ⟨⟨(f i.toNatClampNeg), [(h, zaJ k n f)], rfl, ⟨by (rw [if_pos (zin_t (by omega))]), rfl⟩, by rw [ht9]; exact hP9, hD9⟩, hS.F ht9⟩) hS.2.2 dX5_at_17
set_option maxHeartbeats 4000000 in
set_option maxRecDepth 100000 in
theorem c_X5_cross (l : Launch) (D : va_G) (k : Nat → ClassId) (sz : Nat) (a b h : Nat) (fa fb f : Nat → Int64) : Met l yX5_cross wsX5_cross ({ frames := 0, cells := 0, slots := 0, locals := 0 } : Room) (va_Pc [.ref a, .ref b, .ref h] (zPre D k [(a, zaJ k 3 fa), (b, zaJ k 3 fb), (h, zaJ k 3 f)] sz zX0)) (zQv D [(a, zaJ k 3 fa), (b, zaJ k 3 fb), (h, zaJ k 3 f)] sz (fun w : va_W => w = [(a, zaJ k 3 fa), (b, zaJ k 3 fb), (h, zaJ k 3 (crs fa fb))])) 0 0 (va_A [(a, zaJ k 3 fa), (b, zaJ k 3 fb), (h, zaJ k 3 f)] sz) := by
  refine Met.ofW (cc := cX5_cross) (maxL := 3) (ret := none) (by decide) rfl ?_
  intro p e s m args below meth c s₁ B hml hv
  obtain ⟨rfl, hsz, hP, hK, hD0, hE⟩ := hv
  have hx := B.exec
  have hb := B.bytes
  have hr := B.returns
  have hts := atoms_spec (ws := wsX5_cross) B.pre
  have hown : s.vm.findClass RX5 = some m.cls := findClass_of_methodNamed B.named
  have hlocks := B.notSynchronized
  subst hsz
  have hD := hD0.self (sz := s.heap.size)
  delta zQv zB
  generalize hAe : va_A [(a, zaJ k 3 fa), (b, zaJ k 3 fb), (h, zaJ k 3 f)] s.heap.size = A at hD hE ⊢
  have hA : ∀ q : Nat, s.heap.size ≤ q → A q := fun q h => by rw [← hAe]; exact Or.inr h
  have hS : va_S A s.heap s.heap [] := va_S.rf
  have hl := lv_entry [.ref a, .ref b, .ref h] (n := 3) (Nat.le_of_ble_eq_true rfl)
  rw [lg_entry_eq]
  generalize (lg_sl [.ref a, .ref b, .ref h] ++ List.replicate (3 - (lg_sl [.ref a, .ref b, .ref h]).length) Slot.unset).toArray = ls at hl ⊢
  have hl : lv_has ls 3 [(0, .ref a), (1, .ref b), (2, .ref h)] := hl
  refine lv_aload_n hx hb dX5_cross_0 rfl (lv_at hl 2 rfl) ?_
  refine lv_iconst (v := 0) hx hb dX5_cross_1 (by decide) ?_
  refine lv_aload_n hx hb dX5_cross_2 rfl (lv_at hl 0 rfl) ?_
  refine lv_iconst (v := 1) hx hb dX5_cross_3 (by decide) ?_
  refine z_lald hx hb hK hP 0 rfl 1 zx1 (by decide) (v := fa 1) rfl dX5_cross_4 ?_
  refine lv_aload_n hx hb dX5_cross_5 rfl (lv_at hl 1 rfl) ?_
  refine lv_iconst (v := 2) hx hb dX5_cross_6 (by decide) ?_
  refine z_lald hx hb hK hP 1 rfl 2 zx2 (by decide) (v := fb 2) rfl dX5_cross_7 ?_
  refine lv_lmul hx hb dX5_cross_8 ?_
  refine lv_aload_n hx hb dX5_cross_9 rfl (lv_at hl 0 rfl) ?_
  refine lv_iconst (v := 2) hx hb dX5_cross_10 (by decide) ?_
  refine z_lald hx hb hK hP 0 rfl 2 zx2 (by decide) (v := fa 2) rfl dX5_cross_11 ?_
  refine lv_aload_n hx hb dX5_cross_12 rfl (lv_at hl 1 rfl) ?_
  refine lv_iconst (v := 1) hx hb dX5_cross_13 (by decide) ?_
  refine z_lald hx hb hK hP 1 rfl 1 zx1 (by decide) (v := fb 1) rfl dX5_cross_14 ?_
  refine lv_lmul hx hb dX5_cross_15 ?_
  refine lv_lsub hx hb dX5_cross_16 ?_
  refine z_last hx hb hK hP hD hS 2 rfl 0 zx0 (by decide) (ws' := [(a, zaJ k 3 fa), (b, zaJ k 3 fb), (h, zaJ k 3 (vp_updL f 0 (((fa 1) * (fb 2)) - ((fa 2) * (fb 1)))))]) rfl dX5_cross_17 (fun H locs hP hD hS => ?_)
  refine lv_aload_n hx hb dX5_cross_18 rfl (lv_at hl 2 rfl) ?_
  refine lv_iconst (v := 1) hx hb dX5_cross_19 (by decide) ?_
  refine lv_aload_n hx hb dX5_cross_20 rfl (lv_at hl 0 rfl) ?_
  refine lv_iconst (v := 2) hx hb dX5_cross_21 (by decide) ?_
  refine z_lald hx hb hK hP 0 rfl 2 zx2 (by decide) (v := fa 2) rfl dX5_cross_22 ?_
  refine lv_aload_n hx hb dX5_cross_23 rfl (lv_at hl 1 rfl) ?_
  refine lv_iconst (v := 0) hx hb dX5_cross_24 (by decide) ?_
  refine z_lald hx hb hK hP 1 rfl 0 zx0 (by decide) (v := fb 0) rfl dX5_cross_25 ?_
  refine lv_lmul hx hb dX5_cross_26 ?_
  refine lv_aload_n hx hb dX5_cross_27 rfl (lv_at hl 0 rfl) ?_
  refine lv_iconst (v := 0) hx hb dX5_cross_28 (by decide) ?_
  refine z_lald hx hb hK hP 0 rfl 0 zx0 (by decide) (v := fa 0) rfl dX5_cross_29 ?_
  refine lv_aload_n hx hb dX5_cross_30 rfl (lv_at hl 1 rfl) ?_
  refine lv_iconst (v := 2) hx hb dX5_cross_31 (by decide) ?_
  refine z_lald hx hb hK hP 1 rfl 2 zx2 (by decide) (v := fb 2) rfl dX5_cross_32 ?_
  refine lv_lmul hx hb dX5_cross_33 ?_
  refine lv_lsub hx hb dX5_cross_34 ?_
  refine z_last hx hb hK hP hD hS 2 rfl 1 zx1 (by decide) (ws' := [(a, zaJ k 3 fa), (b, zaJ k 3 fb), (h, zaJ k 3 (vp_updL (vp_updL f 0 (((fa 1) * (fb 2)) - ((fa 2) * (fb 1)))) 1 (((fa 2) * (fb 0)) - ((fa 0) * (fb 2)))))]) rfl dX5_cross_35 (fun H locs hP hD hS => ?_)
  refine lv_aload_n hx hb dX5_cross_36 rfl (lv_at hl 2 rfl) ?_
  refine lv_iconst (v := 2) hx hb dX5_cross_37 (by decide) ?_
  refine lv_aload_n hx hb dX5_cross_38 rfl (lv_at hl 0 rfl) ?_
  refine lv_iconst (v := 0) hx hb dX5_cross_39 (by decide) ?_
  refine z_lald hx hb hK hP 0 rfl 0 zx0 (by decide) (v := fa 0) rfl dX5_cross_40 ?_
  refine lv_aload_n hx hb dX5_cross_41 rfl (lv_at hl 1 rfl) ?_
  refine lv_iconst (v := 1) hx hb dX5_cross_42 (by decide) ?_
  refine z_lald hx hb hK hP 1 rfl 1 zx1 (by decide) (v := fb 1) rfl dX5_cross_43 ?_
  refine lv_lmul hx hb dX5_cross_44 ?_
  refine lv_aload_n hx hb dX5_cross_45 rfl (lv_at hl 0 rfl) ?_
  refine lv_iconst (v := 1) hx hb dX5_cross_46 (by decide) ?_
  refine z_lald hx hb hK hP 0 rfl 1 zx1 (by decide) (v := fa 1) rfl dX5_cross_47 ?_
  refine lv_aload_n hx hb dX5_cross_48 rfl (lv_at hl 1 rfl) ?_
  refine lv_iconst (v := 0) hx hb dX5_cross_49 (by decide) ?_
  refine z_lald hx hb hK hP 1 rfl 0 zx0 (by decide) (v := fb 0) rfl dX5_cross_50 ?_
  refine lv_lmul hx hb dX5_cross_51 ?_
  refine lv_lsub hx hb dX5_cross_52 ?_
  refine z_last hx hb hK hP hD hS 2 rfl 2 zx2 (by decide) (ws' := [(a, zaJ k 3 fa), (b, zaJ k 3 fb), (h, zaJ k 3 (vp_updL (vp_updL (vp_updL f 0 (((fa 1) * (fb 2)) - ((fa 2) * (fb 1)))) 1 (((fa 2) * (fb 0)) - ((fa 0) * (fb 2)))) 2 (((fa 0) * (fb 1)) - ((fa 1) * (fb 0)))))]) rfl dX5_cross_53 (fun H locs hP hD hS => ?_)
  have hP := z_congJ hP 2 rfl (g := crs fa fb) (zall3 (by rfl) (by rfl) (by rfl)) (ws' := [(a, zaJ k 3 fa), (b, zaJ k 3 fb), (h, zaJ k 3 (crs fa fb))]) rfl
  have hD := z_congDJ hD 2 rfl (g := crs fa fb) (ws' := [(a, zaJ k 3 fa), (b, zaJ k 3 fb), (h, zaJ k 3 (crs fa fb))]) rfl
  have hP9 := hP.sub (ws' := [(a, zaJ k 3 fa), (b, zaJ k 3 fb), (h, zaJ k 3 (crs fa fb))]) [0, 1, 2] rfl
  have hD9 := hD.sub (ws' := [(a, zaJ k 3 fa), (b, zaJ k 3 fb), (h, zaJ k 3 (crs fa fb))]) [0, 1, 2] (by decide) rfl
  exact W.vret hx hb hr (fun t9 ht9 hW9 => ⟨⟨[(a, zaJ k 3 fa), (b, zaJ k 3 fb), (h, zaJ k 3 (crs fa fb))], rfl, rfl, by rw [ht9]; exact hP9, hD9⟩, hS.F ht9⟩) hS.2.2 dX5_cross_54
set_option maxHeartbeats 4000000 in
set_option maxRecDepth 100000 in
theorem c_X5_root (l : Launch) (D : va_G) (k : Nat → ClassId) (sz : Nat) (a : Int64) (ha : a.toInt < 2 ^ 62) : Met l yX5_root wsX5_root ({ frames := 0, cells := 0, slots := 0, locals := 0 } : Room) (va_Pc [.long a] (zPre D k [] sz zX0)) (zQl D [] sz (isq a) (fun w : va_W => w = [])) 0 0 (va_A [] sz) := by
  refine Met.ofW (cc := cX5_root) (maxL := 7) (ret := (some .long)) (by decide) rfl ?_
  intro p e s m args below meth c s₁ B hml hv
  obtain ⟨rfl, hsz, hP, hK, hD0, hE⟩ := hv
  have hx := B.exec
  have hb := B.bytes
  have hr := B.returns
  have hts := atoms_spec (ws := wsX5_root) B.pre
  have hown : s.vm.findClass RX5 = some m.cls := findClass_of_methodNamed B.named
  have hlocks := B.notSynchronized
  subst hsz
  have hD := hD0.self (sz := s.heap.size)
  delta zQl zB
  generalize hAe : va_A [] s.heap.size = A at hD hE ⊢
  have hA : ∀ q : Nat, s.heap.size ≤ q → A q := fun q h => by rw [← hAe]; exact Or.inr h
  have hS : va_S A s.heap s.heap [] := va_S.rf
  have hl := lv_entry [.long a] (n := 7) (Nat.le_of_ble_eq_true rfl)
  rw [lg_entry_eq]
  generalize (lg_sl [.long a] ++ List.replicate (7 - (lg_sl [.long a]).length) Slot.unset).toArray = ls at hl ⊢
  have hl : lv_has ls 7 [(0, .long a)] := hl
  refine lv_lconst (v := 0) hx hb dX5_root_0 (by decide) ?_
  refine lv_lstore_n (lv' := [(2, .long 0), (0, .long a)]) hx hb dX5_root_1 rfl hl (by decide) rfl (fun ls hl => ?_)
  refine lv_bipush (v := 30) hx hb dX5_root_2 (by decide) ?_
  refine lv_istore (lv' := [(4, .int 30), (2, .long 0), (0, .long a)]) hx hb dX5_root_4 hl (by decide) rfl (fun ls hl => ?_)
  have hl : lv_has ls 7 [(4, .int 30), (2, .long (lN 0)), (0, .long a)] := hl
  have hl : lv_has ls 7 [(4, .int (nI 31 - 1)), (2, .long (lN 0)), (0, .long a)] := hl
  refine z_loop (St := Nat × Nat) (fun st9 => rt_inv a.toInt st9.1 st9.2) (fun st9 => []) (fun st9 => [(0, .long a), (2, .long (lN st9.2)), (4, .int (nI st9.1 - 1))]) (fun st9 => st9.1) (31, 0) (rt_0 ha) hP hD hS (lv_sub hl [2, 1, 0] rfl) ?_
  intro st9 hj_6 H locs ls hP hD hS hl ih_6
  obtain ⟨j, r⟩ := st9
  have hj_6 : rt_inv a.toInt j r := hj_6
  have hP : va_P D vwCl [] H := hP
  have hD : va_D A [] := hD
  have hl : lv_has ls 7 [(0, .long a), (2, .long (lN r)), (4, .int (nI j - 1))] := hl
  have hjb : j ≤ 31 := hj_6.1
  have hji : (nI j - 1).toInt = (j : Int) - 1 := rt_j hjb
  refine lv_iload hx hb dX5_root_6 (lv_at hl 2 rfl) ?_
  refine lv_if_lt (tgt := 38) hx hb dX5_root_8 (by decide) (fun c_1 => ?_) (fun c_1 => ?_)
  · skip
    have c_1 : (nI j - 1).toInt < 0 := zlt c_1 rfl (by decide)
    refine lv_lload_n hx hb dX5_root_38 rfl (lv_at hl 1 rfl) ?_
    have hP9 := hP.sub (ws' := []) [] rfl
    have hD9 := hD.sub (ws' := []) [] (by decide) rfl
    exact W.lret (v := lN r) hx hb hr (fun t9 ht9 hW9 => ⟨⟨(lN r), [], rfl, ⟨by (exact rt_end hj_6 (by omega)), rfl⟩, by rw [ht9]; exact hP9, hD9⟩, hS.F ht9⟩) hS.2.2 dX5_root_39
  · skip
    have c_1 : 0 ≤ (nI j - 1).toInt := znlt c_1 rfl (by decide)
    refine lv_lload_n hx hb dX5_root_11 rfl (lv_at hl 1 rfl) ?_
    refine lv_lconst (v := 1) hx hb dX5_root_12 (by decide) ?_
    refine lv_iload hx hb dX5_root_13 (lv_at hl 2 rfl) ?_
    refine lv_lshl (v := shl 1 (nI j - 1)) hx hb dX5_root_15 rfl ?_
    refine lv_ladd hx hb dX5_root_16 ?_
    refine lv_topl (fun x_2 ex_2 => ?_)
    refine lv_lstore (lv' := [(5, .long x_2), (0, .long a), (2, .long (lN r)), (4, .int (nI j - 1))]) hx hb dX5_root_17 hl (by decide) rfl (fun ls hl => ?_)
    obtain rfl : x_2 = lN (r + 2 ^ (j - 1)) := by rw [ex_2]; exact rt_t (by omega) (by omega)
    have hl : lv_has ls 7 [(5, .long (lN (r + 2 ^ (j - 1)))), (0, .long a), (2, .long (lN r)), (4, .int (nI j - 1))] := hl
    refine lv_lload hx hb dX5_root_19 (lv_at hl 0 rfl) ?_
    refine lv_lload hx hb dX5_root_21 (lv_at hl 0 rfl) ?_
    refine lv_lmul hx hb dX5_root_23 ?_
    refine lv_lload_n hx hb dX5_root_24 rfl (lv_at hl 1 rfl) ?_
    refine W.lcmp hx hb dX5_root_25 ?_
    refine lv_if_gt (tgt := 32) hx hb dX5_root_26 (by decide) (fun c_3 => ?_) (fun c_3 => ?_)
    · skip
      have c_3 : a.toInt < ((lN (r + 2 ^ (j - 1))) * (lN (r + 2 ^ (j - 1)))).toInt := zltL ((lg_cmp_gt _ _).mp c_3) rfl rfl
      obtain ⟨x_4, ex_4⟩ : ∃ y : Int32, y = (nI j - 1) + (-1) := ⟨_, rfl⟩
      refine lv_iinc (v := x_4) (lv' := [(4, .int x_4), (5, .long (lN (r + 2 ^ (j - 1)))), (0, .long a), (2, .long (lN r))]) hx hb dX5_root_32 hl (k := 3) rfl (by rw [ex_4]; rfl) (by decide) rfl (fun ls hl => ?_)
      refine lv_goto (tgt := 6) hx hb dX5_root_35 (by decide) ?_
      obtain rfl : x_4 = nI (j - 1) - 1 := by rw [ex_4]; exact rt_i (by omega)
      have hl : lv_has ls 7 [(4, .int (nI (j - 1) - 1)), (5, .long (lN (r + 2 ^ (j - 1)))), (0, .long a), (2, .long (lN r))] := hl
      exact ih_6 (j - 1, r) (rt_lo hj_6 (by omega) (by assumption)) (by dsimp only; omega) _ _ _ hP hD hS (lv_sub hl [2, 3, 0] rfl)
    · skip
      have c_3 : ((lN (r + 2 ^ (j - 1))) * (lN (r + 2 ^ (j - 1)))).toInt ≤ a.toInt := znltL (mt (lg_cmp_gt _ _).mpr c_3) rfl rfl
      refine lv_lload hx hb dX5_root_29 (lv_at hl 0 rfl) ?_
      refine lv_lstore_n (lv' := [(2, .long (lN (r + 2 ^ (j - 1)))), (5, .long (lN (r + 2 ^ (j - 1)))), (0, .long a), (4, .int (nI j - 1))]) hx hb dX5_root_31 rfl hl (by decide) rfl (fun ls hl => ?_)
      obtain ⟨x_5, ex_5⟩ : ∃ y : Int32, y = (nI j - 1) + (-1) := ⟨_, rfl⟩
      refine lv_iinc (v := x_5) (lv' := [(4, .int x_5), (2, .long (lN (r + 2 ^ (j - 1)))), (5, .long (lN (r + 2 ^ (j - 1)))), (0, .long a)]) hx hb dX5_root_32 hl (k := 3) rfl (by rw [ex_5]; rfl) (by decide) rfl (fun ls hl => ?_)
      refine lv_goto (tgt := 6) hx hb dX5_root_35 (by decide) ?_
      obtain rfl : x_5 = nI (j - 1) - 1 := by rw [ex_5]; exact rt_i (by omega)
      have hl : lv_has ls 7 [(4, .int (nI (j - 1) - 1)), (2, .long (lN (r + 2 ^ (j - 1)))), (5, .long (lN (r + 2 ^ (j - 1)))), (0, .long a)] := hl
      exact ih_6 (j - 1, r + 2 ^ (j - 1)) (rt_up hj_6 (by omega) (by assumption)) (by dsimp only; omega) _ _ _ hP hD hS (lv_sub hl [3, 1, 0] rfl)
set_option maxHeartbeats 4000000 in
set_option maxRecDepth 100000 in
theorem c_X5_length (l : Launch) (D : va_G) (k : Nat → ClassId) (sz : Nat) (x y z : Int64) (ha : (sq3 x y z).toInt < 2 ^ 62) : Met l yX5_length wsX5_length ({ frames := 1, cells := 0, slots := 0, locals := 26 } : Room) (va_Pc [.long x, .long y, .long z] (zPre D k [] sz zX0)) (zQl D [] sz (isq (sq3 x y z)) (fun w : va_W => w = [])) 0 0 (va_A [] sz) := by
  refine Met.ofW (cc := cX5_length) (maxL := 6) (ret := (some .long)) (by decide) rfl ?_
  intro p e s m args below meth c s₁ B hml hv
  obtain ⟨rfl, hsz, hP, hK, hD0, hE⟩ := hv
  have hx := B.exec
  have hb := B.bytes
  have hr := B.returns
  have hts := atoms_spec (ws := wsX5_length) B.pre
  have hown : s.vm.findClass RX5 = some m.cls := findClass_of_methodNamed B.named
  have hlocks := B.notSynchronized
  subst hsz
  have hD := hD0.self (sz := s.heap.size)
  delta zQl zB
  generalize hAe : va_A [] s.heap.size = A at hD hE ⊢
  have hA : ∀ q : Nat, s.heap.size ≤ q → A q := fun q h => by rw [← hAe]; exact Or.inr h
  have hS : va_S A s.heap s.heap [] := va_S.rf
  have hl := lv_entry [.long x, .long y, .long z] (n := 6) (Nat.le_of_ble_eq_true rfl)
  rw [lg_entry_eq]
  generalize (lg_sl [.long x, .long y, .long z] ++ List.replicate (6 - (lg_sl [.long x, .long y, .long z]).length) Slot.unset).toArray = ls at hl ⊢
  have hl : lv_has ls 6 [(0, .long x), (2, .long y), (4, .long z)] := hl
  refine lv_lload_n hx hb dX5_length_0 rfl (lv_at hl 0 rfl) ?_
  refine lv_lload_n hx hb dX5_length_1 rfl (lv_at hl 0 rfl) ?_
  refine lv_lmul hx hb dX5_length_2 ?_
  refine lv_lload_n hx hb dX5_length_3 rfl (lv_at hl 1 rfl) ?_
  refine lv_lload_n hx hb dX5_length_4 rfl (lv_at hl 1 rfl) ?_
  refine lv_lmul hx hb dX5_length_5 ?_
  refine lv_ladd hx hb dX5_length_6 ?_
  refine lv_lload hx hb dX5_length_7 (lv_at hl 2 rfl) ?_
  refine lv_lload hx hb dX5_length_9 (lv_at hl 2 rfl) ?_
  refine lv_lmul hx hb dX5_length_11 ?_
  refine lv_ladd hx hb dX5_length_12 ?_
  refine z_calll0 (wc := []) (wr := []) (va_runS (As := [.long (((x * x) + (y * y)) + (z * z))]) (rest := []) ⟨hx, hb, hml, hown, hts⟩ (c_X5_root l D k s.heap.size (sq3 x y z) ha) (va_cwS 1 hts gX5_length_X5_root rfl rfl rfl (by decide +kernel) ⟨Nat.le_of_ble_eq_true rfl, Nat.le_of_ble_eq_true rfl⟩) (z_preS (wc := []) hP hD hK [] rfl rfl zb0 zp0) rfl rfl hl.1 rfl (lv_room (Nat.le_of_ble_eq_true rfl)) dX5_length_13 ⟨Nat.zero_le _, Nat.zero_le _⟩) hP hD hS hA [] [] rfl rfl rfl (by decide) (fun w H locs hF hP hD hS => ?_)
  subst hF
  have hP9 := hP.sub (ws' := []) [] rfl
  have hD9 := hD.sub (ws' := []) [] (by decide) rfl
  exact W.lret (v := isq (sq3 x y z)) hx hb hr (fun t9 ht9 hW9 => ⟨⟨(isq (sq3 x y z)), [], rfl, ⟨rfl, rfl⟩, by rw [ht9]; exact hP9, hD9⟩, hS.F ht9⟩) hS.2.2 dX5_length_16
