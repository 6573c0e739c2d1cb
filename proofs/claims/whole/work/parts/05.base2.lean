/-! ===== the words of private members of nest mates, and what a method asks of the outside ===== -/
def zN (U : State) : Prop := va_Nw (Cond.fieldLinkNest RX1 30 "InertialReference$Attitude" "parts" "[J" "InertialReference") U ∧ va_Nw (Cond.fieldLinkNest RX8 199 "InertialReference$Attitude" "parts" "[J" "InertialReference") U ∧ va_Nw (Cond.fieldLinkNest RX4 95 "InertialReference$Sensors" "gyroReadings" "[J" "InertialReference") U ∧ va_Nw (Cond.fieldLinkNest RX8 132 "InertialReference$Sensors" "gyroReadings" "[J" "InertialReference") U ∧ va_Nw (Cond.fieldLinkNest RX4 77 "InertialReference$Sensors" "accelerometerReadings" "[J" "InertialReference") U ∧ va_Nw (Cond.fieldLinkNest RX8 139 "InertialReference$Sensors" "accelerometerReadings" "[J" "InertialReference") U ∧ va_Nw (Cond.fieldLinkNest RX8 179 "InertialReference$CompensationTable" "size" "I" "InertialReference") U ∧ va_Nw (Cond.fieldLinkNest RX8 165 "InertialReference$Calibration" "ticksLeft" "I" "InertialReference") U ∧ va_Nw (Cond.fieldLinkNest RX8 196 "InertialReference$Estimator" "attitude" "LInertialReference$Attitude;" "InertialReference") U ∧ va_Nw (Cond.fieldLinkNest RX8 151 "InertialReference$Estimator" "calibration" "LInertialReference$Calibration;" "InertialReference") U ∧ va_Nw (Cond.fieldLinkNest RX8 167 "InertialReference$Estimator" "bias" "[J" "InertialReference") U ∧ va_Nw (Cond.fieldLinkNest RX7 81 "InertialReference" "UPWARD" "[J" "InertialReference") U ∧ va_Nw (Cond.fieldLinkNest RX4 142 "InertialReference" "UPWARD" "[J" "InertialReference") U ∧ va_Nw (Cond.methodLinkNest RX8 18 yX6_init "InertialReference") U ∧ va_Nw (Cond.methodLinkNest RX8 32 yX3_init "InertialReference") U ∧ va_Nw (Cond.methodLinkNest RX4 20 yX2_init "InertialReference") U ∧ va_Nw (Cond.methodLinkNest RX8 46 yX1_init "InertialReference") U
theorem zn_RX1_30 {U : State} (h : zN U) : va_Nw (Cond.fieldLinkNest RX1 30 "InertialReference$Attitude" "parts" "[J" "InertialReference") U := h.1
theorem zn_RX8_199 {U : State} (h : zN U) : va_Nw (Cond.fieldLinkNest RX8 199 "InertialReference$Attitude" "parts" "[J" "InertialReference") U := h.2.1
theorem zn_RX4_95 {U : State} (h : zN U) : va_Nw (Cond.fieldLinkNest RX4 95 "InertialReference$Sensors" "gyroReadings" "[J" "InertialReference") U := h.2.2.1
theorem zn_RX8_132 {U : State} (h : zN U) : va_Nw (Cond.fieldLinkNest RX8 132 "InertialReference$Sensors" "gyroReadings" "[J" "InertialReference") U := h.2.2.2.1
theorem zn_RX4_77 {U : State} (h : zN U) : va_Nw (Cond.fieldLinkNest RX4 77 "InertialReference$Sensors" "accelerometerReadings" "[J" "InertialReference") U := h.2.2.2.2.1
theorem zn_RX8_139 {U : State} (h : zN U) : va_Nw (Cond.fieldLinkNest RX8 139 "InertialReference$Sensors" "accelerometerReadings" "[J" "InertialReference") U := h.2.2.2.2.2.1
theorem zn_RX8_179 {U : State} (h : zN U) : va_Nw (Cond.fieldLinkNest RX8 179 "InertialReference$CompensationTable" "size" "I" "InertialReference") U := h.2.2.2.2.2.2.1
theorem zn_RX8_165 {U : State} (h : zN U) : va_Nw (Cond.fieldLinkNest RX8 165 "InertialReference$Calibration" "ticksLeft" "I" "InertialReference") U := h.2.2.2.2.2.2.2.1
theorem zn_RX8_196 {U : State} (h : zN U) : va_Nw (Cond.fieldLinkNest RX8 196 "InertialReference$Estimator" "attitude" "LInertialReference$Attitude;" "InertialReference") U := h.2.2.2.2.2.2.2.2.1
theorem zn_RX8_151 {U : State} (h : zN U) : va_Nw (Cond.fieldLinkNest RX8 151 "InertialReference$Estimator" "calibration" "LInertialReference$Calibration;" "InertialReference") U := h.2.2.2.2.2.2.2.2.2.1
theorem zn_RX8_167 {U : State} (h : zN U) : va_Nw (Cond.fieldLinkNest RX8 167 "InertialReference$Estimator" "bias" "[J" "InertialReference") U := h.2.2.2.2.2.2.2.2.2.2.1
theorem zn_RX7_81 {U : State} (h : zN U) : va_Nw (Cond.fieldLinkNest RX7 81 "InertialReference" "UPWARD" "[J" "InertialReference") U := h.2.2.2.2.2.2.2.2.2.2.2.1
theorem zn_RX4_142 {U : State} (h : zN U) : va_Nw (Cond.fieldLinkNest RX4 142 "InertialReference" "UPWARD" "[J" "InertialReference") U := h.2.2.2.2.2.2.2.2.2.2.2.2.1
theorem zn_RX8_18 {U : State} (h : zN U) : va_Nw (Cond.methodLinkNest RX8 18 yX6_init "InertialReference") U := h.2.2.2.2.2.2.2.2.2.2.2.2.2.1
theorem zn_RX8_32 {U : State} (h : zN U) : va_Nw (Cond.methodLinkNest RX8 32 yX3_init "InertialReference") U := h.2.2.2.2.2.2.2.2.2.2.2.2.2.2.1
theorem zn_RX4_20 {U : State} (h : zN U) : va_Nw (Cond.methodLinkNest RX4 20 yX2_init "InertialReference") U := h.2.2.2.2.2.2.2.2.2.2.2.2.2.2.2.1
theorem zn_RX8_46 {U : State} (h : zN U) : va_Nw (Cond.methodLinkNest RX8 46 yX1_init "InertialReference") U := h.2.2.2.2.2.2.2.2.2.2.2.2.2.2.2.2
theorem zN.warm {s U : State} (hW : s.WarmedH U.vm) (h : zN s) : zN U := ⟨va_Nw.warmF hW h.1, va_Nw.warmF hW h.2.1, va_Nw.warmF hW h.2.2.1, va_Nw.warmF hW h.2.2.2.1, va_Nw.warmF hW h.2.2.2.2.1, va_Nw.warmF hW h.2.2.2.2.2.1, va_Nw.warmF hW h.2.2.2.2.2.2.1, va_Nw.warmF hW h.2.2.2.2.2.2.2.1, va_Nw.warmF hW h.2.2.2.2.2.2.2.2.1, va_Nw.warmF hW h.2.2.2.2.2.2.2.2.2.1, va_Nw.warmF hW h.2.2.2.2.2.2.2.2.2.2.1, va_Nw.warmF hW h.2.2.2.2.2.2.2.2.2.2.2.1, va_Nw.warmF hW h.2.2.2.2.2.2.2.2.2.2.2.2.1, va_Nw.warmM hW h.2.2.2.2.2.2.2.2.2.2.2.2.2.1, va_Nw.warmM hW h.2.2.2.2.2.2.2.2.2.2.2.2.2.2.1, va_Nw.warmM hW h.2.2.2.2.2.2.2.2.2.2.2.2.2.2.2.1, va_Nw.warmM hW h.2.2.2.2.2.2.2.2.2.2.2.2.2.2.2.2⟩
theorem zN.same {u U : State} (e : u.vm = U.vm) (h : zN u) : zN U := ⟨va_Nw.same rfl e h.1, va_Nw.same rfl e h.2.1, va_Nw.same rfl e h.2.2.1, va_Nw.same rfl e h.2.2.2.1, va_Nw.same rfl e h.2.2.2.2.1, va_Nw.same rfl e h.2.2.2.2.2.1, va_Nw.same rfl e h.2.2.2.2.2.2.1, va_Nw.same rfl e h.2.2.2.2.2.2.2.1, va_Nw.same rfl e h.2.2.2.2.2.2.2.2.1, va_Nw.same rfl e h.2.2.2.2.2.2.2.2.2.1, va_Nw.same rfl e h.2.2.2.2.2.2.2.2.2.2.1, va_Nw.same rfl e h.2.2.2.2.2.2.2.2.2.2.2.1, va_Nw.same rfl e h.2.2.2.2.2.2.2.2.2.2.2.2.1, va_Nw.same rfl e h.2.2.2.2.2.2.2.2.2.2.2.2.2.1, va_Nw.same rfl e h.2.2.2.2.2.2.2.2.2.2.2.2.2.2.1, va_Nw.same rfl e h.2.2.2.2.2.2.2.2.2.2.2.2.2.2.2.1, va_Nw.same rfl e h.2.2.2.2.2.2.2.2.2.2.2.2.2.2.2.2⟩
theorem zN.of {args : Array Value} {s : State} (h : ∀ w ∈ ([Cond.fieldLinkNest RX1 30 "InertialReference$Attitude" "parts" "[J" "InertialReference", Cond.fieldLinkNest RX8 199 "InertialReference$Attitude" "parts" "[J" "InertialReference", Cond.fieldLinkNest RX4 95 "InertialReference$Sensors" "gyroReadings" "[J" "InertialReference", Cond.fieldLinkNest RX8 132 "InertialReference$Sensors" "gyroReadings" "[J" "InertialReference", Cond.fieldLinkNest RX4 77 "InertialReference$Sensors" "accelerometerReadings" "[J" "InertialReference", Cond.fieldLinkNest RX8 139 "InertialReference$Sensors" "accelerometerReadings" "[J" "InertialReference", Cond.fieldLinkNest RX8 179 "InertialReference$CompensationTable" "size" "I" "InertialReference", Cond.fieldLinkNest RX8 165 "InertialReference$Calibration" "ticksLeft" "I" "InertialReference", Cond.fieldLinkNest RX8 196 "InertialReference$Estimator" "attitude" "LInertialReference$Attitude;" "InertialReference", Cond.fieldLinkNest RX8 151 "InertialReference$Estimator" "calibration" "LInertialReference$Calibration;" "InertialReference", Cond.fieldLinkNest RX8 167 "InertialReference$Estimator" "bias" "[J" "InertialReference", Cond.fieldLinkNest RX7 81 "InertialReference" "UPWARD" "[J" "InertialReference", Cond.fieldLinkNest RX4 142 "InertialReference" "UPWARD" "[J" "InertialReference", Cond.methodLinkNest RX8 18 yX6_init "InertialReference", Cond.methodLinkNest RX8 32 yX3_init "InertialReference", Cond.methodLinkNest RX4 20 yX2_init "InertialReference", Cond.methodLinkNest RX8 46 yX1_init "InertialReference"] : List Cond), w.before args s = true) : zN s := ⟨va_Nw.of rfl (h _ (List.mem_of_getElem? (i := 0) rfl)), va_Nw.of rfl (h _ (List.mem_of_getElem? (i := 1) rfl)), va_Nw.of rfl (h _ (List.mem_of_getElem? (i := 2) rfl)), va_Nw.of rfl (h _ (List.mem_of_getElem? (i := 3) rfl)), va_Nw.of rfl (h _ (List.mem_of_getElem? (i := 4) rfl)), va_Nw.of rfl (h _ (List.mem_of_getElem? (i := 5) rfl)), va_Nw.of rfl (h _ (List.mem_of_getElem? (i := 6) rfl)), va_Nw.of rfl (h _ (List.mem_of_getElem? (i := 7) rfl)), va_Nw.of rfl (h _ (List.mem_of_getElem? (i := 8) rfl)), va_Nw.of rfl (h _ (List.mem_of_getElem? (i := 9) rfl)), va_Nw.of rfl (h _ (List.mem_of_getElem? (i := 10) rfl)), va_Nw.of rfl (h _ (List.mem_of_getElem? (i := 11) rfl)), va_Nw.of rfl (h _ (List.mem_of_getElem? (i := 12) rfl)), va_Nw.of rfl (h _ (List.mem_of_getElem? (i := 13) rfl)), va_Nw.of rfl (h _ (List.mem_of_getElem? (i := 14) rfl)), va_Nw.of rfl (h _ (List.mem_of_getElem? (i := 15) rfl)), va_Nw.of rfl (h _ (List.mem_of_getElem? (i := 16) rfl))⟩
def zUp : Nat → Int64 := fun j => match j with
  | 0 => 0
  | 1 => 0
  | _ => -268435456
def zTb (nav n : Nat) (f : Nat → Int64) (A : Nat → Prop) (U : State) : Prop := va_T .long nav n (fun j => Value.long (f j)) A U U.heap
def zE0 (up : Nat) (A : Nat → Prop) (U : State) : Prop := zN U ∧ va_Z "InertialReference" "UPWARD" "[J" (.ref up) A U U.heap ∧ zTb up 3 zUp A U
def zE1 (up er : Nat) (fe : Nat → Int64) (A : Nat → Prop) (U : State) : Prop := zE0 up A U ∧ zTb er 3 fe A U
theorem zNb : ∀ (U : State) (g : JFrame) (mk : MethodId) (a : Array Value), zN U → zN (U.calling g mk a) := fun U g mk a h => zN.same (u := U) (U := U.calling g mk a) rfl h
theorem zTbb {nav n : Nat} {f : Nat → Int64} {A : Nat → Prop} : ∀ (U : State) (g : JFrame) (mk : MethodId) (a : Array Value), zTb nav n f A U → zTb nav n f A (U.calling g mk a) := fun U g mk a h => va_T.moved (u := U) (U := U.calling g mk a) (Vm.Alike.refl U.vm) h
theorem zE0b {up : Nat} {A : Nat → Prop} : ∀ (U : State) (g : JFrame) (mk : MethodId) (a : Array Value), zE0 up A U → zE0 up A (U.calling g mk a) := fun U g mk a h => ⟨zNb U g mk a h.1, va_Z.moved (u := U) (U := U.calling g mk a) (Vm.Alike.refl U.vm) h.2.1, zTbb U g mk a h.2.2⟩
theorem zE1b {up er : Nat} {fe : Nat → Int64} {A : Nat → Prop} : ∀ (U : State) (g : JFrame) (mk : MethodId) (a : Array Value), zE1 up er fe A U → zE1 up er fe A (U.calling g mk a) := fun U g mk a h => ⟨zE0b U g mk a h.1, zTbb U g mk a h.2⟩
theorem zNp {s : State} {H : Heap} (h : zN s) : ∀ U : State, U.heap = H → s.WarmedH U.vm → zN U := fun _ _ hW => zN.warm hW h
theorem zTp {s : State} {H : Heap} {locs : List Loc} {nav n : Nat} {f : Nat → Int64} {A B : Nat → Prop} (h : zTb nav n f A s) (hS : va_S A s.heap H locs) (hF : ∀ q, B q → A q) : ∀ U : State, U.heap = H → s.WarmedH U.vm → zTb nav n f B U := fun U hU hW => by
  unfold zTb
  rw [hU]
  exact va_T.moved hW.alike (va_T.narrow (va_T.kept h (fun a h1 h2 => hS.2.1 a h1 h2)) hF)
theorem zTk {s : State} {H : Heap} {locs : List Loc} {nav n : Nat} {f : Nat → Int64} {A : Nat → Prop} (h : zTb nav n f A s) : zTb nav n f A s := h
theorem zE0p {s : State} {H : Heap} {locs : List Loc} {up : Nat} {A B : Nat → Prop} (h : zE0 up A s) (hS : va_S A s.heap H locs) (hF : ∀ q, B q → A q) : ∀ U : State, U.heap = H → s.WarmedH U.vm → zE0 up B U := fun U hU hW => ⟨zN.warm hW h.1, by
  rw [hU]
  exact va_Z.moved hW.alike (va_Z.narrow (va_Z.kept h.2.1 (fun a h1 h2 => hS.2.1 a h1 h2)) hF), zTp h.2.2 hS hF U hU hW⟩
theorem zE1p {s : State} {H : Heap} {up er : Nat} {fe : Nat → Int64} {B : Nat → Prop} (h0 : ∀ U : State, U.heap = H → s.WarmedH U.vm → zE0 up B U) (h1 : ∀ U : State, U.heap = H → s.WarmedH U.vm → zTb er 3 fe B U) : ∀ U : State, U.heap = H → s.WarmedH U.vm → zE1 up er fe B U := fun U hU hW => ⟨h0 U hU hW, h1 U hU hW⟩
/-- an array of the caller's world that the callee only reads: it lies outside the callee's cells -/
theorem zTq {s : State} {H : Heap} {D : va_G} {k : Nat → ClassId} {ws wc : va_W} {A : Nat → Prop} {nav n : Nat} {f : Nat → Int64} (hK : va_K D vwCl (zT k) s) (hP : va_P D vwCl ws H) (hD : va_D A ws) (q0 : Nat) (ha : ws[q0]? = some (nav, zaJ k n f)) (isC : List Nat) (hC : isC.map (fun i => ws[i]?) = wc.map some) (hq : q0 ∉ isC) : ∀ U : State, U.heap = H → s.WarmedH U.vm → zTb nav n f (va_A wc H.size) U := fun U hU hW => by
  have hc := hP q0 _ ha
  have hc2 : H[nav]? = some (arrV (k 0) n (fun j => .long (f j))) := hc
  have hlt : nav < H.size := (Array.getElem?_eq_some_iff.mp hc2).1
  have hout : ¬ va_A wc H.size nav := by
    intro h
    rcases h with ⟨i, e, h⟩ | h
    · have h1 : (isC.map (fun i => ws[i]?))[i]? = some (some (nav, e)) := by rw [hC, List.getElem?_map, h]; rfl
      rw [List.getElem?_map] at h1
      cases hi : isC[i]? with
      | none => rw [hi] at h1; cases h1
      | some j =>
        rw [hi] at h1
        have h2 : ws[j]? = some (nav, e) := Option.some.inj h1
        have h3 := hD.1 q0 j _ _ ha h2 rfl
        exact hq (h3 ▸ List.mem_of_getElem? hi)
    · omega
  unfold zTb
  rw [hU]
  refine va_T.moved hW.alike ⟨_, hc2, ((hK.2 0 _ rfl).1 n (fun j => .long (f j))), fun q => (by cases q), ?_, ?_, fun j hj => arrV_read _ _ hj, hout⟩
  · rw [arrV_size]; exact Nat.le_refl _
  · rw [arrV_size]
theorem zw {ws : List Cond} {args : Array Value} {s : State} (hts : ∀ w ∈ ws, w.before args s = true) (n : Nat) {w : Cond} (h : ws[n]? = some w) : w.before args s = true := hts w (List.mem_of_getElem? h)
def sar (x : Int64) (n : Int32) : Int64 := x >>> (n.toInt64 &&& 63)
def shl (x : Int64) (n : Int32) : Int64 := x <<< (n.toInt64 &&& 63)
def iushr (x n : Int32) : Int32 := (x.toUInt32 >>> (n.toUInt32 &&& Int32.toUInt32 31)).toInt32
def zb (b : Bool) : Int32 := if b then 1 else 0
theorem zb_e {b : Bool} (h : zb b = 0) : b = false := by cases b <;> first | rfl | exact absurd h (by decide)
theorem zb_n {b : Bool} (h : ¬ zb b = 0) : b = true := by cases b <;> first | rfl | exact absurd rfl h
theorem zb_nar (b : Bool) : narrow .boolean (.int (zb b)) = .int (zb b) := by cases b <;> rfl
theorem zb_vnar (b : Bool) : vp_nar .boolean (zb b) = zb b := by cases b <;> rfl
def zin (x : Int32) (a b : Int) : Bool := decide (a ≤ x.toInt ∧ x.toInt ≤ b)
def zinl (x a b : Int64) : Bool := decide (a ≤ x ∧ x ≤ b)
theorem zall3 {P : Nat → Prop} (h0 : P 0) (h1 : P 1) (h2 : P 2) : ∀ j, j < 3 → P j := fun j h => match j, h with
  | 0, _ => h0
  | 1, _ => h1
  | 2, _ => h2
theorem zall4 {P : Nat → Prop} (h0 : P 0) (h1 : P 1) (h2 : P 2) (h3 : P 3) : ∀ j, j < 4 → P j := fun j h => match j, h with
  | 0, _ => h0
  | 1, _ => h1
  | 2, _ => h2
  | 3, _ => h3
theorem zall9 {P : Nat → Prop} (h0 : P 0) (h1 : P 1) (h2 : P 2) (h3 : P 3) (h4 : P 4) (h5 : P 5) (h6 : P 6) (h7 : P 7) (h8 : P 8) : ∀ j, j < 9 → P j := fun j h => match j, h with
  | 0, _ => h0
  | 1, _ => h1
  | 2, _ => h2
  | 3, _ => h3
  | 4, _ => h4
  | 5, _ => h5
  | 6, _ => h6
  | 7, _ => h7
  | 8, _ => h8
theorem z_congI {D : va_G} {k : Nat → ClassId} {ws ws' : va_W} {H : Heap} (h : va_P D vwCl ws H) (q0 : Nat) {a n : Nat} {f g : Nat → Int32} (ha : ws[q0]? = some (a, zaI k n f)) (hfg : ∀ j, j < n → f j = g j) (hw : ws.set q0 (a, zaI k n g) = ws') : va_P D vwCl ws' H := by
  subst hw
  intro i q hq
  by_cases e : q0 = i
  · subst e
    rw [List.getElem?_set_self (List.getElem?_eq_some_iff.mp ha).1] at hq
    cases hq
    have h2 : H[a]? = some (vp_cell (k 1) (n, .inl f)) := h q0 _ ha
    show H[a]? = some (vp_cell (k 1) (n, .inl g))
    rw [h2]
    exact congrArg some (zarr (fun j hj => congrArg Value.int (hfg j hj)))
  · rw [List.getElem?_set_ne e] at hq
    exact h i q hq
theorem z_congZ {D : va_G} {k : Nat → ClassId} {ws ws' : va_W} {H : Heap} (h : va_P D vwCl ws H) (q0 : Nat) {a n : Nat} {f g : Nat → Int32} (ha : ws[q0]? = some (a, zaZ k n f)) (hfg : ∀ j, j < n → f j = g j) (hw : ws.set q0 (a, zaZ k n g) = ws') : va_P D vwCl ws' H := by
  subst hw
  intro i q hq
  by_cases e : q0 = i
  · subst e
    rw [List.getElem?_set_self (List.getElem?_eq_some_iff.mp ha).1] at hq
    cases hq
    have h2 : H[a]? = some (vp_cell (k 2) (n, .inl f)) := h q0 _ ha
    show H[a]? = some (vp_cell (k 2) (n, .inl g))
    rw [h2]
    exact congrArg some (zarr (fun j hj => congrArg Value.int (hfg j hj)))
  · rw [List.getElem?_set_ne e] at hq
    exact h i q hq
theorem z_congO {D : va_G} {ws ws' : va_W} {H : Heap} (h : va_P D vwCl ws H) (q0 : Nat) {a ci : Nat} {fs fs2 : List Value} (ha : ws[q0]? = some (a, .inr (ci, fs))) (hfg : fs = fs2) (hw : ws.set q0 (a, .inr (ci, fs2)) = ws') : va_P D vwCl ws' H := by
  subst hw
  subst hfg
  intro i q hq
  by_cases e : q0 = i
  · subst e
    rw [List.getElem?_set_self (List.getElem?_eq_some_iff.mp ha).1] at hq
    cases hq
    exact h q0 _ ha
  · rw [List.getElem?_set_ne e] at hq
    exact h i q hq
theorem z_congD {A : Nat → Prop} {ws ws' : va_W} (h : va_D A ws) (q0 : Nat) {a : Nat} {x y : va_E} (ha : ws[q0]? = some (a, x)) (hw : ws.set q0 (a, y) = ws') : va_D A ws' := by
  subst hw
  exact h.set ha
theorem z_congDJ {A : Nat → Prop} {k : Nat → ClassId} {ws ws' : va_W} (h : va_D A ws) (q0 : Nat) {a n : Nat} {f g : Nat → Int64} (ha : ws[q0]? = some (a, zaJ k n f)) (hw : ws.set q0 (a, zaJ k n g) = ws') : va_D A ws' := z_congD h q0 ha hw
theorem z_congDI {A : Nat → Prop} {k : Nat → ClassId} {ws ws' : va_W} (h : va_D A ws) (q0 : Nat) {a n : Nat} {f g : Nat → Int32} (ha : ws[q0]? = some (a, zaI k n f)) (hw : ws.set q0 (a, zaI k n g) = ws') : va_D A ws' := z_congD h q0 ha hw
theorem z_congDZ {A : Nat → Prop} {k : Nat → ClassId} {ws ws' : va_W} (h : va_D A ws) (q0 : Nat) {a n : Nat} {f g : Nat → Int32} (ha : ws[q0]? = some (a, zaZ k n f)) (hw : ws.set q0 (a, zaZ k n g) = ws') : va_D A ws' := z_congD h q0 ha hw
theorem z_congDO {A : Nat → Prop} {ws ws' : va_W} (h : va_D A ws) (q0 : Nat) {a ci : Nat} {fs fs2 : List Value} (ha : ws[q0]? = some (a, .inr (ci, fs))) (hw : ws.set q0 (a, .inr (ci, fs2)) = ws') : va_D A ws' := z_congD h q0 ha hw
section ZT
variable {p : Program} {l : Launch} {e : Env} {R : Room} {s : State} {m : MethodId} {args : Array Value} {below : List Frame} {meth : Method} {c : Code} {H : Heap} {locs : List Loc} {cells slots : Nat} {Q : State → Prop}
variable {cc : ByteArray} {pc : Nat} {ls : Array Slot} {rest : List Value} {A : Nat → Prop} {a n : Nat}
theorem z_told (hexec : p.tables.exec = Jvm.exec) (hb : c.code = cc) {f : Nat → Int64} (hT : zTb a n f A s) (hS : va_S A s.heap H locs) {i : Int32} (j : Nat) (hi : i.toNatClampNeg = j ∧ ¬ i < 0) (hj : j < n) {v : Int64} (hv : f j = v) (hdg : decode cc pc = .ok (.laload, 1))
    (kk : W p l e R s m args below meth c H locs cells slots Q (F0 m (pc + 1) ls (.long v :: rest))) : W p l e R s m args below meth c H locs cells slots Q (F0 m pc ls (.int i :: .ref a :: rest)) :=
  va_tl hexec hb hT hS (zvi hi hj) (by rw [hi.1, hv]) hdg kk
end ZT

theorem zlt {a b : Int32} {A B : Int} (h : a < b) (ha : a.toInt = A := by rfl) (hb : b.toInt = B := by rfl) : A < B := by rw [← ha, ← hb]; exact Int32.lt_iff_toInt_lt.mp h
theorem zle {a b : Int32} {A B : Int} (h : a ≤ b) (ha : a.toInt = A := by rfl) (hb : b.toInt = B := by rfl) : A ≤ B := by rw [← ha, ← hb]; exact Int32.le_iff_toInt_le.mp h
theorem znlt {a b : Int32} {A B : Int} (h : ¬ a < b) (ha : a.toInt = A := by rfl) (hb : b.toInt = B := by rfl) : B ≤ A := by rw [← ha, ← hb]; have := mt Int32.lt_iff_toInt_lt.mpr h; omega
theorem znle {a b : Int32} {A B : Int} (h : ¬ a ≤ b) (ha : a.toInt = A := by rfl) (hb : b.toInt = B := by rfl) : B < A := by rw [← ha, ← hb]; have := mt Int32.le_iff_toInt_le.mpr h; omega
theorem zltL {a b : Int64} {A B : Int} (h : a < b) (ha : a.toInt = A := by rfl) (hb : b.toInt = B := by rfl) : A < B := by rw [← ha, ← hb]; exact Int64.lt_iff_toInt_lt.mp h
theorem zleL {a b : Int64} {A B : Int} (h : a ≤ b) (ha : a.toInt = A := by rfl) (hb : b.toInt = B := by rfl) : A ≤ B := by rw [← ha, ← hb]; exact Int64.le_iff_toInt_le.mp h
theorem znltL {a b : Int64} {A B : Int} (h : ¬ a < b) (ha : a.toInt = A := by rfl) (hb : b.toInt = B := by rfl) : B ≤ A := by rw [← ha, ← hb]; have := mt Int64.lt_iff_toInt_lt.mpr h; omega
theorem znleL {a b : Int64} {A B : Int} (h : ¬ a ≤ b) (ha : a.toInt = A := by rfl) (hb : b.toInt = B := by rfl) : B < A := by rw [← ha, ← hb]; have := mt Int64.le_iff_toInt_le.mpr h; omega
theorem zb_t {b : Bool} (h : b = true) : (1 : Int32) = zb b := by rw [h]; rfl
theorem zb_f {b : Bool} (h : b = false) : (0 : Int32) = zb b := by rw [h]; rfl
theorem zin_t {x : Int32} {a b : Int} (h : a ≤ x.toInt ∧ x.toInt ≤ b) : zin x a b = true := decide_eq_true h
theorem zin_f {x : Int32} {a b : Int} (h : ¬ (a ≤ x.toInt ∧ x.toInt ≤ b)) : zin x a b = false := decide_eq_false h
theorem zin_T {x : Int32} {a b : Int} (h : zin x a b = true) : a ≤ x.toInt ∧ x.toInt ≤ b := of_decide_eq_true h
theorem zin_F {x : Int32} {a b : Int} (h : zin x a b = false) : ¬ (a ≤ x.toInt ∧ x.toInt ≤ b) := of_decide_eq_false h
def zinL (x : Int64) (a b : Int) : Bool := decide (a ≤ x.toInt ∧ x.toInt ≤ b)
theorem zinL_t {x : Int64} {a b : Int} (h : a ≤ x.toInt ∧ x.toInt ≤ b) : zinL x a b = true := decide_eq_true h
theorem zinL_f {x : Int64} {a b : Int} (h : ¬ (a ≤ x.toInt ∧ x.toInt ≤ b)) : zinL x a b = false := decide_eq_false h
theorem zinL_i (x : Int32) (a b : Int) : zinL x.toInt64 a b = zin x a b := by unfold zinL zin; rw [Int32.toInt_toInt64]
def zfill {α : Type} (f : Nat → α) (v : α) (n : Nat) : Nat → α := fun i => if i < n then v else f i
theorem zfill_0 {α : Type} (f : Nat → α) (v : α) (i : Nat) : f i = zfill f v 0 i := (if_neg (Nat.not_lt_zero i)).symm
theorem zfill_sJ (f : Nat → Int64) (v : Int64) (n i : Nat) : vp_updL (zfill f v n) n v i = zfill f v (n + 1) i := by
  unfold vp_updL zfill
  by_cases h : i = n
  · simp [h]
  · by_cases h2 : i < n
    · simp [h, h2, Nat.lt_succ_of_lt h2]
    · simp [h, h2, show ¬ i < n + 1 by omega]
theorem zfill_sI (f : Nat → Int32) (v : Int32) (n i : Nat) : upd (zfill f v n) n v i = zfill f v (n + 1) i := by
  unfold upd zfill
  by_cases h : i = n
  · simp [h]
  · by_cases h2 : i < n
    · simp [h, h2, Nat.lt_succ_of_lt h2]
    · simp [h, h2, show ¬ i < n + 1 by omega]
theorem zfill_n {α : Type} (f : Nat → α) (v : α) {n i : Nat} (h : i < n) : zfill f v n i = v := if_pos h
theorem zlg_eq {x y : Int64} (h : lg_cmp x y = 0) : x = y := (lg_cmp_eq x y).mp h
theorem zlg_ne {x y : Int64} (h : ¬ lg_cmp x y = 0) : ¬ x = y := mt (lg_cmp_eq x y).mpr h
theorem zxi {i : Int32} (h : 0 ≤ i.toInt) : i.toNatClampNeg = i.toNatClampNeg ∧ ¬ i < 0 := ⟨rfl, fun q => absurd (zlt q rfl (by decide : (0 : Int32).toInt = 0)) (by omega)⟩
theorem zxl {i : Int32} {n : Nat} (h : 0 ≤ i.toInt) (h2 : i.toInt < n) : i.toNatClampNeg < n := by
  have e : i.toNatClampNeg = i.toInt.toNat := rfl
  omega
def zmax (x y : Int64) : Int64 := if y < x then x else y
def zmin (x y : Int64) : Int64 := if y < x then y else x

theorem znfw : nativeFrameWords "java/lang/System" "arraycopy" 5 = 7 := by decide
section ZCP
variable {p : Program} {l : Launch} {e : Env} {R : Room} {s : State} {m : MethodId} {args : Array Value} {below : List Frame} {meth : Method} {c : Code} {H : Heap} {locs : List Loc} {cells slots : Nat} {Q : State → Prop}
variable {cc : ByteArray} {pc : Nat} {ls : Array Slot} {rest : List Value} {D : va_G} {k : Nat → ClassId} {A : Nat → Prop} {a : Nat} {ws ws' : va_W} {H0 : Heap}
theorem z_copyl (hexec : p.tables.exec = Jvm.exec) (hb : c.code = cc) (hml : c.maxLocals = ls.size) {own : String} {index : Nat} (hown : s.vm.findClass own = some m.cls) (hlink : (Cond.methodLink own index arraycopyName).before args s = true) (hnat : (Cond.native arraycopyName).before args s = true) (hstat : (Cond.static arraycopyName).before args s = true) (hini : (Cond.initialized "java/lang/System").before args s = true)
    (hK : va_K D vwCl (zT k) s) (hP : va_P D vwCl ws H) (hD : va_D A ws) (hS : va_S A H0 H locs) (q0 q1 : Nat) {a0 n0 n1 : Nat} {f g : Nat → Int64} (ha0 : ws[q0]? = some (a0, zaJ k n0 f)) (ha1 : ws[q1]? = some (a, zaJ k n1 g))
    {sp dp n : Int32} (js jd jn : Nat) (h1 : sp.toNatClampNeg = js ∧ ¬ sp < 0) (h2 : dp.toNatClampNeg = jd ∧ ¬ dp < 0) (h3 : n.toNatClampNeg = jn ∧ ¬ n < 0) (h4 : js + jn ≤ n0) (h5 : jd + jn ≤ n1) (hw : ws.set q1 (a, zaJ k n1 (va_cpy f g js jd jn)) = ws')
    (hframes : 1 ≤ R.frames) (hlocals : (rest.map fun v => v.category).sum + 18 ≤ R.locals) (hdg : decode cc pc = .ok (.invokestatic index, 3))
    (kk : ∀ (H1 : Heap) (locs1 : List Loc), va_P D vwCl ws' H1 → va_D A ws' → va_S A H0 H1 locs1 → W p l e R s m args below meth c H1 locs1 cells slots Q (F0 m (pc + 3) ls rest)) : W p l e R s m args below meth c H locs cells slots Q (F0 m pc ls (.int n :: .int dp :: .ref a :: .int sp :: .ref a0 :: rest)) := by
  subst hw
  obtain ⟨rfl, h1⟩ := h1
  obtain ⟨rfl, h2⟩ := h2
  obtain ⟨rfl, h3⟩ := h3
  exact va_copyl hexec hb hml hown hlink hnat hstat hini hK hP hD hS q0 q1 0 0 ha0 ha1 rfl rfl rfl h1 h2 h3 h4 h5 (fun _ _ => rfl) hframes (by rw [znfw]; exact hlocals) hdg kk
theorem z_copyi (hexec : p.tables.exec = Jvm.exec) (hb : c.code = cc) (hml : c.maxLocals = ls.size) {own : String} {index : Nat} (hown : s.vm.findClass own = some m.cls) (hlink : (Cond.methodLink own index arraycopyName).before args s = true) (hnat : (Cond.native arraycopyName).before args s = true) (hstat : (Cond.static arraycopyName).before args s = true) (hini : (Cond.initialized "java/lang/System").before args s = true)
    (hK : va_K D vwCl (zT k) s) (hP : va_P D vwCl ws H) (hD : va_D A ws) (hS : va_S A H0 H locs) (q0 q1 : Nat) {a0 n0 n1 : Nat} {f g : Nat → Int32} (ha0 : ws[q0]? = some (a0, zaI k n0 f)) (ha1 : ws[q1]? = some (a, zaI k n1 g))
    {sp dp n : Int32} (js jd jn : Nat) (h1 : sp.toNatClampNeg = js ∧ ¬ sp < 0) (h2 : dp.toNatClampNeg = jd ∧ ¬ dp < 0) (h3 : n.toNatClampNeg = jn ∧ ¬ n < 0) (h4 : js + jn ≤ n0) (h5 : jd + jn ≤ n1) (hw : ws.set q1 (a, zaI k n1 (va_cpy f g js jd jn)) = ws')
    (hframes : 1 ≤ R.frames) (hlocals : (rest.map fun v => v.category).sum + 18 ≤ R.locals) (hdg : decode cc pc = .ok (.invokestatic index, 3))
    (kk : ∀ (H1 : Heap) (locs1 : List Loc), va_P D vwCl ws' H1 → va_D A ws' → va_S A H0 H1 locs1 → W p l e R s m args below meth c H1 locs1 cells slots Q (F0 m (pc + 3) ls rest)) : W p l e R s m args below meth c H locs cells slots Q (F0 m pc ls (.int n :: .int dp :: .ref a :: .int sp :: .ref a0 :: rest)) := by
  subst hw
  obtain ⟨rfl, h1⟩ := h1
  obtain ⟨rfl, h2⟩ := h2
  obtain ⟨rfl, h3⟩ := h3
  exact va_copyi hexec hb hml hown hlink hnat hstat hini hK hP hD hS q0 q1 1 1 ha0 ha1 rfl rfl rfl h1 h2 h3 h4 h5 (fun _ _ => rfl) hframes (by rw [znfw]; exact hlocals) hdg kk
end ZCP
theorem z_congG {D : va_G} {k : Nat → ClassId} {ws ws' : va_W} {H : Heap} (h : va_P D vwCl ws H) (q0 : Nat) {a n : Nat} {f g : Nat → Option Nat} (ha : ws[q0]? = some (a, zaG k n f)) (hfg : ∀ j, j < n → f j = g j) (hw : ws.set q0 (a, zaG k n g) = ws') : va_P D vwCl ws' H := by
  subst hw
  intro i q hq
  by_cases e : q0 = i
  · subst e
    rw [List.getElem?_set_self (List.getElem?_eq_some_iff.mp ha).1] at hq
    cases hq
    have h2 : H[a]? = some (vp_cell (k 3) (n, .inr (.inr (.inr (.inr f))))) := h q0 _ ha
    show H[a]? = some (vp_cell (k 3) (n, .inr (.inr (.inr (.inr g)))))
    rw [h2]
    exact congrArg some (zarr (fun j hj => congrArg va_rf (hfg j hj)))
  · rw [List.getElem?_set_ne e] at hq
    exact h i q hq
theorem z_congDG {A : Nat → Prop} {k : Nat → ClassId} {ws ws' : va_W} (h : va_D A ws) (q0 : Nat) {a n : Nat} {f g : Nat → Option Nat} (ha : ws[q0]? = some (a, zaG k n f)) (hw : ws.set q0 (a, zaG k n g) = ws') : va_D A ws' := z_congD h q0 ha hw
