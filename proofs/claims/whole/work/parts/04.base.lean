/-! ===== the worlds of this claim: arrays by four classes (k 0 long[], k 1 int[], k 2 boolean[], k 3 long[][]), contracts in one form ===== -/
abbrev zT (k : Nat → ClassId) : List (ClassId × FieldType) := [(k 0, .long), (k 1, .int), (k 2, .boolean), (k 3, .array .long)]
abbrev zaJ (k : Nat → ClassId) (n : Nat) (f : Nat → Int64) : va_E := .inl (k 0, n, .inr (.inl f))
abbrev zaI (k : Nat → ClassId) (n : Nat) (f : Nat → Int32) : va_E := .inl (k 1, n, .inl f)
abbrev zaZ (k : Nat → ClassId) (n : Nat) (f : Nat → Int32) : va_E := .inl (k 2, n, .inl f)
abbrev zaG (k : Nat → ClassId) (n : Nat) (f : Nat → Option Nat) : va_E := .inl (k 3, n, .inr (.inr (.inr (.inr f))))
abbrev zPre (D : va_G) (k : Nat → ClassId) (wc : va_W) (sz : Nat) (X : State → Prop) : State → Prop := fun U => U.heap.size = sz ∧ va_P D vwCl wc U.heap ∧ va_K D vwCl (zT k) U ∧ va_D (fun _ => True) wc ∧ X U
abbrev zB (D : va_G) (wc : va_W) (sz : Nat) : va_W → State → Prop := fun w t => va_P D vwCl w t.heap ∧ va_D (va_A wc sz) w
abbrev zQv (D : va_G) (wc : va_W) (sz : Nat) (F : va_W → Prop) : Array Value → State → Outcome → State → Prop := va_Qv F (zB D wc sz) (va_A wc sz)
abbrev zQi (D : va_G) (wc : va_W) (sz : Nat) (r0 : Int32) (F : va_W → Prop) : Array Value → State → Outcome → State → Prop := va_Qi (fun r w => r = r0 ∧ F w) (zB D wc sz) (va_A wc sz)
abbrev zQl (D : va_G) (wc : va_W) (sz : Nat) (r0 : Int64) (F : va_W → Prop) : Array Value → State → Outcome → State → Prop := va_Ql (fun r w => r = r0 ∧ F w) (zB D wc sz) (va_A wc sz)
abbrev zQr (D : va_G) (wc : va_W) (sz : Nat) (a0 : Nat) (F : va_W → Prop) : Array Value → State → Outcome → State → Prop := va_Qr F (fun w a t => a = a0 ∧ zB D wc sz w t) (va_A wc sz)
abbrev zX0 : State → Prop := fun _ => True
theorem zfm {α β : Type} {f : α → Option β} : ∀ {l : List α} {m : List β}, l.map f = m.map some → l.filterMap f = m := by
  intro l
  induction l with
  | nil => intro m h; cases m with | nil => rfl | cons _ _ => cases h
  | cons a l ih =>
    intro m h
    cases m with
    | nil => cases h
    | cons b m =>
      simp only [List.map_cons, List.cons.injEq] at h
      simp only [List.filterMap_cons, h.1, ih h.2]
theorem z_preS {s : State} {H : Heap} {D : va_G} {k : Nat → ClassId} {ws wc : va_W} {A : Nat → Prop} {X : State → Prop} {As : List Value} (hP : va_P D vwCl ws H) (hD : va_D A ws) (hK : va_K D vwCl (zT k) s) (isC : List Nat) (hC : isC.map (fun i => ws[i]?) = wc.map some) (hn : va_nd isC = true) (hb : ∀ (U : State) (g : JFrame) (mk : MethodId) (a : Array Value), X U → X (U.calling g mk a)) (hX : ∀ U : State, U.heap = H → s.WarmedH U.vm → X U) : PreS s H (va_Pc As (zPre D k wc H.size X)) As :=
  ⟨fun a U g mk q => by
    obtain ⟨q0, q1, qP, qK, qD, qX⟩ := q
    exact ⟨q0, q1, qP, va_K.moved (u := U) (U := U.calling g mk a) (Vm.Alike.refl U.vm) qK, qD, hb U g mk a qX⟩,
   fun U hU hW => ⟨rfl, by rw [hU], by rw [hU]; exact hP.sub isC (zfm hC), va_K.moved hW.alike hK, (hD.sub isC hn hC).weaken (fun _ _ _ _ => trivial), hX U hU hW⟩⟩
theorem z_preV {s : State} {H : Heap} {D : va_G} {k : Nat → ClassId} {ws wc : va_W} {A : Nat → Prop} {X : State → Prop} {As : List Value} {b : Nat} (q0 ci : Nat) {r : vw_C} {fs : List Value} (hP : va_P D vwCl ws H) (hD : va_D A ws) (hK : va_K D vwCl (zT k) s) (isC : List Nat) (he : ws[q0]? = some (b, .inr (ci, fs))) (hc : vwCl[ci]? = some r) (hC : isC.map (fun i => ws[i]?) = wc.map some) (hn : va_nd isC = true) (hb : ∀ (U : State) (g : JFrame) (mk : MethodId) (a : Array Value), X U → X (U.calling g mk a)) (hX : ∀ U : State, U.heap = H → s.WarmedH U.vm → X U) : PreV s H r.1 b (va_Pc (.ref b :: As) (zPre D k wc H.size X)) As :=
  ⟨(z_preS (As := .ref b :: As) hP hD hK isC hC hn hb hX).1, va_recv hK hP hc he, (z_preS (As := .ref b :: As) hP hD hK isC hC hn hb hX).2⟩
theorem zb0 : ∀ (U : State) (g : JFrame) (mk : MethodId) (a : Array Value), zX0 U → zX0 (U.calling g mk a) := fun _ _ _ _ _ => trivial
theorem zp0 {s : State} {H : Heap} : ∀ U : State, U.heap = H → s.WarmedH U.vm → zX0 U := fun _ _ _ => trivial
section ZC
variable {p : Program} {l : Launch} {e : Env} {R : Room} {s : State} {m : MethodId} {args : Array Value} {below : List Frame} {meth : Method} {c : Code} {H : Heap} {locs : List Loc} {cells slots : Nat} {Q : State → Prop}
variable {pc : Nat} {ls : Array Slot} {rest st0 : List Value} {a : Array Value} {A0 : Nat → Prop} {H0 : Heap} {mc ms : Nat} {D : va_G} {ws wc wr : va_W} {F : va_W → Prop}
theorem z_calli {r0 : Int32} (hr : va_Run p l e R s m args below meth c H locs cells slots mc ms (F0 m pc ls st0) rest (zQi D wc H.size r0 F a) (va_A wc H.size)) (hP : va_P D vwCl ws H) (hD : va_D A0 ws) (hS : va_S A0 H0 H locs) (hA : ∀ q, H0.size ≤ q → A0 q) (isC isR : List Nat) (hC : isC.map (fun i => ws[i]?) = wc.map some) (hR : isR.map (fun i => ws[i]?) = wr.map some) (hn : va_nd isR = true) (hdis : ∀ i ∈ isR, i ∉ isC)
    (kk : ∀ (w : va_W) (H1 : Heap) (locs1 : List Loc), F w → va_P D vwCl (wr ++ w) H1 → va_D A0 (wr ++ w) → va_S A0 H0 H1 locs1 → W p l e R s m args below meth c H1 locs1 (cells + mc) (slots + ms) Q (F0 m (pc + 3) ls (.int r0 :: rest))) : W p l e R s m args below meth c H locs cells slots Q (F0 m pc ls st0) := by
  have hFc := va_free hD hS hA isC hC
  refine va_calli hr hS (fun q _ h => hFc q h) hFc (fun r w t H1 locs1 ht hvm hw hB hz hk hS1 => ?_)
  obtain ⟨rfl, hF⟩ := hw
  obtain ⟨hP1, hD1⟩ := hB
  rw [ht] at hP1
  obtain ⟨hP2, hD2⟩ := va_join hP hD isC isR hC hR hn hdis hk hFc hP1 hD1
  exact kk w H1 locs1 hF hP2 hD2 hS1
theorem z_calll {r0 : Int64} (hr : va_Run p l e R s m args below meth c H locs cells slots mc ms (F0 m pc ls st0) rest (zQl D wc H.size r0 F a) (va_A wc H.size)) (hP : va_P D vwCl ws H) (hD : va_D A0 ws) (hS : va_S A0 H0 H locs) (hA : ∀ q, H0.size ≤ q → A0 q) (isC isR : List Nat) (hC : isC.map (fun i => ws[i]?) = wc.map some) (hR : isR.map (fun i => ws[i]?) = wr.map some) (hn : va_nd isR = true) (hdis : ∀ i ∈ isR, i ∉ isC)
    (kk : ∀ (w : va_W) (H1 : Heap) (locs1 : List Loc), F w → va_P D vwCl (wr ++ w) H1 → va_D A0 (wr ++ w) → va_S A0 H0 H1 locs1 → W p l e R s m args below meth c H1 locs1 (cells + mc) (slots + ms) Q (F0 m (pc + 3) ls (.long r0 :: rest))) : W p l e R s m args below meth c H locs cells slots Q (F0 m pc ls st0) := by
  have hFc := va_free hD hS hA isC hC
  refine va_calll hr hS (fun q _ h => hFc q h) hFc (fun r w t H1 locs1 ht hvm hw hB hz hk hS1 => ?_)
  obtain ⟨rfl, hF⟩ := hw
  obtain ⟨hP1, hD1⟩ := hB
  rw [ht] at hP1
  obtain ⟨hP2, hD2⟩ := va_join hP hD isC isR hC hR hn hdis hk hFc hP1 hD1
  exact kk w H1 locs1 hF hP2 hD2 hS1
theorem z_callv (hr : va_Run p l e R s m args below meth c H locs cells slots mc ms (F0 m pc ls st0) rest (zQv D wc H.size F a) (va_A wc H.size)) (hP : va_P D vwCl ws H) (hD : va_D A0 ws) (hS : va_S A0 H0 H locs) (hA : ∀ q, H0.size ≤ q → A0 q) (isC isR : List Nat) (hC : isC.map (fun i => ws[i]?) = wc.map some) (hR : isR.map (fun i => ws[i]?) = wr.map some) (hn : va_nd isR = true) (hdis : ∀ i ∈ isR, i ∉ isC)
    (kk : ∀ (w : va_W) (H1 : Heap) (locs1 : List Loc), F w → va_P D vwCl (wr ++ w) H1 → va_D A0 (wr ++ w) → va_S A0 H0 H1 locs1 → W p l e R s m args below meth c H1 locs1 (cells + mc) (slots + ms) Q (F0 m (pc + 3) ls rest)) : W p l e R s m args below meth c H locs cells slots Q (F0 m pc ls st0) := by
  have hFc := va_free hD hS hA isC hC
  refine va_callv hr hS (fun q _ h => hFc q h) hFc (fun w t H1 locs1 ht hvm hw hB hz hk hS1 => ?_)
  obtain ⟨hP1, hD1⟩ := hB
  rw [ht] at hP1
  obtain ⟨hP2, hD2⟩ := va_join hP hD isC isR hC hR hn hdis hk hFc hP1 hD1
  exact kk w H1 locs1 hw hP2 hD2 hS1
theorem z_callr {r0 : Nat} (hr : va_Run p l e R s m args below meth c H locs cells slots mc ms (F0 m pc ls st0) rest (zQr D wc H.size r0 F a) (va_A wc H.size)) (hP : va_P D vwCl ws H) (hD : va_D A0 ws) (hS : va_S A0 H0 H locs) (hA : ∀ q, H0.size ≤ q → A0 q) (isC isR : List Nat) (hC : isC.map (fun i => ws[i]?) = wc.map some) (hR : isR.map (fun i => ws[i]?) = wr.map some) (hn : va_nd isR = true) (hdis : ∀ i ∈ isR, i ∉ isC)
    (kk : ∀ (w : va_W) (H1 : Heap) (locs1 : List Loc), F w → va_P D vwCl (wr ++ w) H1 → va_D A0 (wr ++ w) → va_S A0 H0 H1 locs1 → W p l e R s m args below meth c H1 locs1 (cells + mc) (slots + ms) Q (F0 m (pc + 3) ls (.ref r0 :: rest))) : W p l e R s m args below meth c H locs cells slots Q (F0 m pc ls st0) := by
  have hFc := va_free hD hS hA isC hC
  refine va_callr hr hS (fun q _ h => hFc q h) hFc (fun w ra t H1 locs1 ht hvm hw hB hz hk hS1 => ?_)
  obtain ⟨rfl, hP1, hD1⟩ := hB
  rw [ht] at hP1
  obtain ⟨hP2, hD2⟩ := va_join hP hD isC isR hC hR hn hdis hk hFc hP1 hD1
  exact kk w H1 locs1 hw hP2 hD2 hS1
theorem z_calli0 {r0 : Int32} (hr : va_Run p l e R s m args below meth c H locs cells slots 0 0 (F0 m pc ls st0) rest (zQi D wc H.size r0 F a) (va_A wc H.size)) (hP : va_P D vwCl ws H) (hD : va_D A0 ws) (hS : va_S A0 H0 H locs) (hA : ∀ q, H0.size ≤ q → A0 q) (isC isR : List Nat) (hC : isC.map (fun i => ws[i]?) = wc.map some) (hR : isR.map (fun i => ws[i]?) = wr.map some) (hn : va_nd isR = true) (hdis : ∀ i ∈ isR, i ∉ isC)
    (kk : ∀ (w : va_W) (H1 : Heap) (locs1 : List Loc), F w → va_P D vwCl (wr ++ w) H1 → va_D A0 (wr ++ w) → va_S A0 H0 H1 locs1 → W p l e R s m args below meth c H1 locs1 cells slots Q (F0 m (pc + 3) ls (.int r0 :: rest))) : W p l e R s m args below meth c H locs cells slots Q (F0 m pc ls st0) := by
  have hFc := va_free hD hS hA isC hC
  refine va_calli hr hS (fun q _ h => hFc q h) hFc (fun r w t H1 locs1 ht hvm hw hB hz hk hS1 => ?_)
  obtain ⟨rfl, hF⟩ := hw
  obtain ⟨hP1, hD1⟩ := hB
  rw [ht] at hP1
  obtain ⟨hP2, hD2⟩ := va_join hP hD isC isR hC hR hn hdis hk hFc hP1 hD1
  exact kk w H1 locs1 hF hP2 hD2 hS1
theorem z_calll0 {r0 : Int64} (hr : va_Run p l e R s m args below meth c H locs cells slots 0 0 (F0 m pc ls st0) rest (zQl D wc H.size r0 F a) (va_A wc H.size)) (hP : va_P D vwCl ws H) (hD : va_D A0 ws) (hS : va_S A0 H0 H locs) (hA : ∀ q, H0.size ≤ q → A0 q) (isC isR : List Nat) (hC : isC.map (fun i => ws[i]?) = wc.map some) (hR : isR.map (fun i => ws[i]?) = wr.map some) (hn : va_nd isR = true) (hdis : ∀ i ∈ isR, i ∉ isC)
    (kk : ∀ (w : va_W) (H1 : Heap) (locs1 : List Loc), F w → va_P D vwCl (wr ++ w) H1 → va_D A0 (wr ++ w) → va_S A0 H0 H1 locs1 → W p l e R s m args below meth c H1 locs1 cells slots Q (F0 m (pc + 3) ls (.long r0 :: rest))) : W p l e R s m args below meth c H locs cells slots Q (F0 m pc ls st0) := by
  have hFc := va_free hD hS hA isC hC
  refine va_calll hr hS (fun q _ h => hFc q h) hFc (fun r w t H1 locs1 ht hvm hw hB hz hk hS1 => ?_)
  obtain ⟨rfl, hF⟩ := hw
  obtain ⟨hP1, hD1⟩ := hB
  rw [ht] at hP1
  obtain ⟨hP2, hD2⟩ := va_join hP hD isC isR hC hR hn hdis hk hFc hP1 hD1
  exact kk w H1 locs1 hF hP2 hD2 hS1
theorem z_callv0 (hr : va_Run p l e R s m args below meth c H locs cells slots 0 0 (F0 m pc ls st0) rest (zQv D wc H.size F a) (va_A wc H.size)) (hP : va_P D vwCl ws H) (hD : va_D A0 ws) (hS : va_S A0 H0 H locs) (hA : ∀ q, H0.size ≤ q → A0 q) (isC isR : List Nat) (hC : isC.map (fun i => ws[i]?) = wc.map some) (hR : isR.map (fun i => ws[i]?) = wr.map some) (hn : va_nd isR = true) (hdis : ∀ i ∈ isR, i ∉ isC)
    (kk : ∀ (w : va_W) (H1 : Heap) (locs1 : List Loc), F w → va_P D vwCl (wr ++ w) H1 → va_D A0 (wr ++ w) → va_S A0 H0 H1 locs1 → W p l e R s m args below meth c H1 locs1 cells slots Q (F0 m (pc + 3) ls rest)) : W p l e R s m args below meth c H locs cells slots Q (F0 m pc ls st0) := by
  have hFc := va_free hD hS hA isC hC
  refine va_callv hr hS (fun q _ h => hFc q h) hFc (fun w t H1 locs1 ht hvm hw hB hz hk hS1 => ?_)
  obtain ⟨hP1, hD1⟩ := hB
  rw [ht] at hP1
  obtain ⟨hP2, hD2⟩ := va_join hP hD isC isR hC hR hn hdis hk hFc hP1 hD1
  exact kk w H1 locs1 hw hP2 hD2 hS1
theorem z_callr0 {r0 : Nat} (hr : va_Run p l e R s m args below meth c H locs cells slots 0 0 (F0 m pc ls st0) rest (zQr D wc H.size r0 F a) (va_A wc H.size)) (hP : va_P D vwCl ws H) (hD : va_D A0 ws) (hS : va_S A0 H0 H locs) (hA : ∀ q, H0.size ≤ q → A0 q) (isC isR : List Nat) (hC : isC.map (fun i => ws[i]?) = wc.map some) (hR : isR.map (fun i => ws[i]?) = wr.map some) (hn : va_nd isR = true) (hdis : ∀ i ∈ isR, i ∉ isC)
    (kk : ∀ (w : va_W) (H1 : Heap) (locs1 : List Loc), F w → va_P D vwCl (wr ++ w) H1 → va_D A0 (wr ++ w) → va_S A0 H0 H1 locs1 → W p l e R s m args below meth c H1 locs1 cells slots Q (F0 m (pc + 3) ls (.ref r0 :: rest))) : W p l e R s m args below meth c H locs cells slots Q (F0 m pc ls st0) := by
  have hFc := va_free hD hS hA isC hC
  refine va_callr hr hS (fun q _ h => hFc q h) hFc (fun w ra t H1 locs1 ht hvm hw hB hz hk hS1 => ?_)
  obtain ⟨rfl, hP1, hD1⟩ := hB
  rw [ht] at hP1
  obtain ⟨hP2, hD2⟩ := va_join hP hD isC isR hC hR hn hdis hk hFc hP1 hD1
  exact kk w H1 locs1 hw hP2 hD2 hS1
end ZC
theorem zx0 : (0 : Int32).toNatClampNeg = 0 ∧ ¬ (0 : Int32) < 0 := by decide
theorem zx1 : (1 : Int32).toNatClampNeg = 1 ∧ ¬ (1 : Int32) < 0 := by decide
theorem zx2 : (2 : Int32).toNatClampNeg = 2 ∧ ¬ (2 : Int32) < 0 := by decide
theorem zx3 : (3 : Int32).toNatClampNeg = 3 ∧ ¬ (3 : Int32) < 0 := by decide
theorem zx4 : (4 : Int32).toNatClampNeg = 4 ∧ ¬ (4 : Int32) < 0 := by decide
theorem zx5 : (5 : Int32).toNatClampNeg = 5 ∧ ¬ (5 : Int32) < 0 := by decide
theorem zx6 : (6 : Int32).toNatClampNeg = 6 ∧ ¬ (6 : Int32) < 0 := by decide
theorem zx7 : (7 : Int32).toNatClampNeg = 7 ∧ ¬ (7 : Int32) < 0 := by decide
theorem zx8 : (8 : Int32).toNatClampNeg = 8 ∧ ¬ (8 : Int32) < 0 := by decide
theorem zxn {n : Nat} (h : n < 2 ^ 31) : (nI n).toNatClampNeg = n ∧ ¬ nI n < 0 := ⟨nI_clamp h, nI_pos h⟩
theorem zvi {i : Int32} {j n : Nat} (hi : i.toNatClampNeg = j ∧ ¬ i < 0) (hj : j < n) : vp_in i n := fun h => h.elim hi.2 (fun h => absurd (hi.1 ▸ h) (Nat.not_le.mpr hj))
section ZR
variable {p : Program} {l : Launch} {e : Env} {R : Room} {s : State} {m : MethodId} {args : Array Value} {below : List Frame} {meth : Method} {c : Code} {H : Heap} {locs : List Loc} {cells slots : Nat} {Q : State → Prop}
variable {cc : ByteArray} {pc : Nat} {ls : Array Slot} {rest : List Value} {D : va_G} {k : Nat → ClassId} {A : Nat → Prop} {a n : Nat} {ws ws' : va_W} {H0 : Heap}
theorem z_lald (hexec : p.tables.exec = Jvm.exec) (hb : c.code = cc) (hK : va_K D vwCl (zT k) s) (hP : va_P D vwCl ws H) (q0 : Nat) {f : Nat → Int64} (ha : ws[q0]? = some (a, zaJ k n f)) {i : Int32} (j : Nat) (hi : i.toNatClampNeg = j ∧ ¬ i < 0) (hj : j < n) {v : Int64} (hv : f j = v) (hdg : decode cc pc = .ok (.laload, 1))
    (kk : W p l e R s m args below meth c H locs cells slots Q (F0 m (pc + 1) ls (.long v :: rest))) : W p l e R s m args below meth c H locs cells slots Q (F0 m pc ls (.int i :: .ref a :: rest)) :=
  va_lald hexec hb hK hP q0 0 ha rfl (zvi hi hj) hdg (by rw [hi.1, hv]; exact kk)
theorem z_iald (hexec : p.tables.exec = Jvm.exec) (hb : c.code = cc) (hK : va_K D vwCl (zT k) s) (hP : va_P D vwCl ws H) (q0 : Nat) {f : Nat → Int32} (ha : ws[q0]? = some (a, zaI k n f)) {i : Int32} (j : Nat) (hi : i.toNatClampNeg = j ∧ ¬ i < 0) (hj : j < n) {v : Int32} (hv : f j = v) (hdg : decode cc pc = .ok (.iaload, 1))
    (kk : W p l e R s m args below meth c H locs cells slots Q (F0 m (pc + 1) ls (.int v :: rest))) : W p l e R s m args below meth c H locs cells slots Q (F0 m pc ls (.int i :: .ref a :: rest)) :=
  va_iald hexec hb hK hP q0 1 ha rfl (zvi hi hj) hdg (by rw [hi.1, hv]; exact kk)
theorem z_zald (hexec : p.tables.exec = Jvm.exec) (hb : c.code = cc) (hK : va_K D vwCl (zT k) s) (hP : va_P D vwCl ws H) (q0 : Nat) {f : Nat → Int32} (ha : ws[q0]? = some (a, zaZ k n f)) {i : Int32} (j : Nat) (hi : i.toNatClampNeg = j ∧ ¬ i < 0) (hj : j < n) {v : Int32} (hv : f j = v) (hdg : decode cc pc = .ok (.baload, 1))
    (kk : W p l e R s m args below meth c H locs cells slots Q (F0 m (pc + 1) ls (.int v :: rest))) : W p l e R s m args below meth c H locs cells slots Q (F0 m pc ls (.int i :: .ref a :: rest)) :=
  va_zald hexec hb hK hP q0 2 ha rfl (zvi hi hj) hdg (by rw [hi.1, hv]; exact kk)
theorem z_gald (hexec : p.tables.exec = Jvm.exec) (hb : c.code = cc) (hK : va_K D vwCl (zT k) s) (hP : va_P D vwCl ws H) (q0 : Nat) {f : Nat → Option Nat} (ha : ws[q0]? = some (a, zaG k n f)) {i : Int32} (j : Nat) (hi : i.toNatClampNeg = j ∧ ¬ i < 0) (hj : j < n) {v : Nat} (hv : f j = some v) (hdg : decode cc pc = .ok (.aaload, 1))
    (kk : W p l e R s m args below meth c H locs cells slots Q (F0 m (pc + 1) ls (.ref v :: rest))) : W p l e R s m args below meth c H locs cells slots Q (F0 m pc ls (.int i :: .ref a :: rest)) := by
  refine W.aald (v := va_rf (f i.toNatClampNeg)) (ty := .array .long) hexec hb (hP q0 _ ha) ((hK.2 3 _ rfl).1 n (fun j => va_rf (f j))) rfl (fun q => by cases q) (by show ¬ (i < 0 ∨ (arrV _ _ _).slots.size ≤ _); rw [arrV_size]; exact zvi hi hj) (by show (arrV _ _ _).slots[_]? = _; rw [arrV_read _ _ (by rw [hi.1]; exact hj)]) rfl rfl hdg ?_
  rw [hi.1, hv]
  exact kk
theorem z_last (hexec : p.tables.exec = Jvm.exec) (hb : c.code = cc) (hK : va_K D vwCl (zT k) s) (hP : va_P D vwCl ws H) (hD : va_D A ws) (hS : va_S A H0 H locs) (q0 : Nat) {f : Nat → Int64} (ha : ws[q0]? = some (a, zaJ k n f)) {i : Int32} {x : Int64} (j : Nat) (hi : i.toNatClampNeg = j ∧ ¬ i < 0) (hj : j < n) (hw : ws.set q0 (a, zaJ k n (vp_updL f j x)) = ws') (hdg : decode cc pc = .ok (.lastore, 1))
    (kk : ∀ (H1 : Heap) (locs1 : List Loc), va_P D vwCl ws' H1 → va_D A ws' → va_S A H0 H1 locs1 → W p l e R s m args below meth c H1 locs1 cells slots Q (F0 m (pc + 1) ls rest)) : W p l e R s m args below meth c H locs cells slots Q (F0 m pc ls (.long x :: .int i :: .ref a :: rest)) :=
  va_last hexec hb hK hP hD hS q0 0 ha rfl (zvi hi hj) hdg (fun H1 locs1 hP hD hS => by rw [hi.1, hw] at hP hD; exact kk H1 locs1 hP hD hS)
theorem z_iast (hexec : p.tables.exec = Jvm.exec) (hb : c.code = cc) (hK : va_K D vwCl (zT k) s) (hP : va_P D vwCl ws H) (hD : va_D A ws) (hS : va_S A H0 H locs) (q0 : Nat) {f : Nat → Int32} (ha : ws[q0]? = some (a, zaI k n f)) {i : Int32} {x : Int32} (j : Nat) (hi : i.toNatClampNeg = j ∧ ¬ i < 0) (hj : j < n) (hw : ws.set q0 (a, zaI k n (upd f j x)) = ws') (hdg : decode cc pc = .ok (.iastore, 1))
    (kk : ∀ (H1 : Heap) (locs1 : List Loc), va_P D vwCl ws' H1 → va_D A ws' → va_S A H0 H1 locs1 → W p l e R s m args below meth c H1 locs1 cells slots Q (F0 m (pc + 1) ls rest)) : W p l e R s m args below meth c H locs cells slots Q (F0 m pc ls (.int x :: .int i :: .ref a :: rest)) :=
  va_iast hexec hb hK hP hD hS q0 1 ha rfl (zvi hi hj) hdg (fun H1 locs1 hP hD hS => by rw [hi.1, hw] at hP hD; exact kk H1 locs1 hP hD hS)
end ZR
section ZR2
variable {p : Program} {l : Launch} {e : Env} {R : Room} {s : State} {m : MethodId} {args : Array Value} {below : List Frame} {meth : Method} {c : Code} {H : Heap} {locs : List Loc} {cells slots : Nat} {Q : State → Prop}
variable {cc : ByteArray} {pc : Nat} {ls : Array Slot} {rest : List Value} {D : va_G} {k : Nat → ClassId} {A : Nat → Prop} {a n : Nat} {ws ws' : va_W} {H0 : Heap}
theorem z_zast (hexec : p.tables.exec = Jvm.exec) (hb : c.code = cc) (hK : va_K D vwCl (zT k) s) (hP : va_P D vwCl ws H) (hD : va_D A ws) (hS : va_S A H0 H locs) (q0 : Nat) {f : Nat → Int32} (ha : ws[q0]? = some (a, zaZ k n f)) {i : Int32} {x : Int32} (j : Nat) (hi : i.toNatClampNeg = j ∧ ¬ i < 0) (hj : j < n) {v : Int32} (hv : vp_nar .boolean x = v) (hw : ws.set q0 (a, zaZ k n (upd f j v)) = ws') (hdg : decode cc pc = .ok (.bastore, 1))
    (kk : ∀ (H1 : Heap) (locs1 : List Loc), va_P D vwCl ws' H1 → va_D A ws' → va_S A H0 H1 locs1 → W p l e R s m args below meth c H1 locs1 cells slots Q (F0 m (pc + 1) ls rest)) : W p l e R s m args below meth c H locs cells slots Q (F0 m pc ls (.int x :: .int i :: .ref a :: rest)) :=
  va_zast hexec hb hK hP hD hS q0 2 ha rfl (zvi hi hj) hdg (fun H1 locs1 hP hD hS => by rw [hi.1, hv, hw] at hP hD; exact kk H1 locs1 hP hD hS)
/-- a place where runs meet (no call behind): the tail is shown once, over a state of its own -/
theorem z_cut {St : Type} (inv : St → Prop) (wsf : St → va_W) (lvf : St → List (Nat × Value)) (stk : St → List Value) (nL pcJ : Nat) {g : JFrame}
    (tail : ∀ st : St, inv st → ∀ (H1 : Heap) (locs1 : List Loc) (ls1 : Array Slot), va_P D vwCl (wsf st) H1 → va_D A (wsf st) → va_S A H0 H1 locs1 → lv_has ls1 nL (lvf st) → W p l e R s m args below meth c H1 locs1 cells slots Q (F0 m pcJ ls1 (stk st)))
    (kk : (∀ st : St, inv st → ∀ (H1 : Heap) (locs1 : List Loc) (ls1 : Array Slot), va_P D vwCl (wsf st) H1 → va_D A (wsf st) → va_S A H0 H1 locs1 → lv_has ls1 nL (lvf st) → W p l e R s m args below meth c H1 locs1 cells slots Q (F0 m pcJ ls1 (stk st))) → W p l e R s m args below meth c H locs cells slots Q g) : W p l e R s m args below meth c H locs cells slots Q g := kk tail
/-- a loop, at its head, over a state of its own; the measure falls -/
theorem z_loop {St : Type} (inv : St → Prop) (wsf : St → va_W) (lvf : St → List (Nat × Value)) (μ : St → Nat) {nL : Nat} (st0 : St) (hi : inv st0) (hP : va_P D vwCl (wsf st0) H) (hD : va_D A (wsf st0)) (hS : va_S A H0 H locs) (hl : lv_has ls nL (lvf st0))
    (step : ∀ st : St, inv st → ∀ (H1 : Heap) (locs1 : List Loc) (ls1 : Array Slot), va_P D vwCl (wsf st) H1 → va_D A (wsf st) → va_S A H0 H1 locs1 → lv_has ls1 nL (lvf st) →
      (∀ st' : St, inv st' → μ st' < μ st → ∀ (H2 : Heap) (locs2 : List Loc) (ls2 : Array Slot), va_P D vwCl (wsf st') H2 → va_D A (wsf st') → va_S A H0 H2 locs2 → lv_has ls2 nL (lvf st') → W p l e R s m args below meth c H2 locs2 cells slots Q (F0 m pc ls2 rest)) →
      W p l e R s m args below meth c H1 locs1 cells slots Q (F0 m pc ls1 rest)) : W p l e R s m args below meth c H locs cells slots Q (F0 m pc ls rest) := by
  have key : ∀ (n : Nat) (st : St), μ st < n → inv st → ∀ (H1 : Heap) (locs1 : List Loc) (ls1 : Array Slot), va_P D vwCl (wsf st) H1 → va_D A (wsf st) → va_S A H0 H1 locs1 → lv_has ls1 nL (lvf st) → W p l e R s m args below meth c H1 locs1 cells slots Q (F0 m pc ls1 rest) := by
    intro n
    induction n with
    | zero => intro st h; exact absurd h (Nat.not_lt_zero _)
    | succ n ih =>
      intro st h hi H1 locs1 ls1 hP hD hS hl
      exact step st hi H1 locs1 ls1 hP hD hS hl (fun st' hi' hlt => ih st' (by omega) hi')
  exact key _ st0 (Nat.lt_succ_self _) hi H locs ls hP hD hS hl
end ZR2
theorem zarr {cI : ClassId} {n : Nat} {f g : Nat → Value} (h : ∀ j, j < n → f j = g j) : arrV cI n f = arrV cI n g := by
  unfold arrV
  have e : (fun j : Fin n => f j.val) = (fun j : Fin n => g j.val) := funext fun j => h j.val j.isLt
  rw [e]
/-- a cell's contents are read only up to its length -/
theorem z_congJ {D : va_G} {k : Nat → ClassId} {ws ws' : va_W} {H : Heap} (h : va_P D vwCl ws H) (q0 : Nat) {a n : Nat} {f g : Nat → Int64} (ha : ws[q0]? = some (a, zaJ k n f)) (hfg : ∀ j, j < n → f j = g j) (hw : ws.set q0 (a, zaJ k n g) = ws') : va_P D vwCl ws' H := by
  subst hw
  intro i q hq
  by_cases e : q0 = i
  · subst e
    rw [List.getElem?_set_self (List.getElem?_eq_some_iff.mp ha).1] at hq
    cases hq
    have h1 := h q0 _ ha
    show H[a]? = some (vp_cell (k 0) (n, .inr (.inl g)))
    have h2 : H[a]? = some (vp_cell (k 0) (n, .inr (.inl f))) := h1
    rw [h2]
    exact congrArg some (zarr (fun j hj => congrArg Value.long (hfg j hj)))
  · rw [List.getElem?_set_ne e] at hq
    exact h i q hq
