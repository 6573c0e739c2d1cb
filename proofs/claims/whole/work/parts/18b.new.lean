/-! ===== what is made ===== -/
theorem va_AOA.moved {ty : FieldType} {u U : State} (hvm : u.vm.Alike U.vm) (h : va_AOA ty u) : va_AOA ty U := by
  have h1 : (Cond.arrayOver (.array ty)).before #[] (u.setVm U.vm) = true := by rw [Cond.arrayOver_setVmC hvm]; exact h
  unfold va_AOA Cond.before Cond.holds
  simp only [Cond.value]
  unfold Cond.before Cond.holds at h1
  simp only [Cond.value] at h1
  exact h1
def zI (U : State) : Prop := zN U ∧ va_AOA .long U
theorem zIb : ∀ (U : State) (g : JFrame) (mk : MethodId) (a : Array Value), zI U → zI (U.calling g mk a) := fun U g mk a h => ⟨zNb U g mk a h.1, va_AOA.moved (u := U) (U := U.calling g mk a) (Vm.Alike.refl U.vm) h.2⟩
theorem zIp {s : State} {H : Heap} (h : zI s) : ∀ U : State, U.heap = H → s.WarmedH U.vm → zI U := fun _ _ hW => ⟨zN.warm hW h.1, va_AOA.moved hW.alike h.2⟩
section ZNW
variable {p : Program} {l : Launch} {e : Env} {R : Room} {s : State} {m : MethodId} {args : Array Value} {below : List Frame} {meth : Method} {c : Code} {H : Heap} {locs : List Loc} {cells slots : Nat} {Q : State → Prop}
variable {cc : ByteArray} {pc : Nat} {ls : Array Slot} {rest : List Value} {D : va_G} {k : Nat → ClassId} {A : Nat → Prop} {ws : va_W} {H0 : Heap}
theorem z_newJ (hexec : p.tables.exec = Jvm.exec) (hb : c.code = cc) (harr : (Cond.arrayClass .long).before args s = true) (hK : va_K D vwCl (zT k) s) (hP : va_P D vwCl ws H) (hD : va_D A ws) (hS : va_S A H0 H locs) (hA : ∀ q, H0.size ≤ q → A q)
    {n : Int32} (N : Nat) (hn : n.toNatClampNeg = N ∧ ¬ n < 0) (hbytes : N * 8 ≤ 536870912) (hcells : cells + 1 ≤ R.cells) (hslots : slots + N ≤ R.slots) (hdg : decode cc pc = .ok (.newarray .long, 2))
    (kk : ∀ (q : Nat) (H1 : Heap), va_P D vwCl (ws ++ [(q, zaJ k N (fun _ => 0))]) H1 → va_D A (ws ++ [(q, zaJ k N (fun _ => 0))]) → va_S A H0 H1 locs → W p l e R s m args below meth c H1 locs (cells + 1) (slots + N) Q (F0 m (pc + 2) ls (.ref q :: rest))) : W p l e R s m args below meth c H locs cells slots Q (F0 m pc ls (.int n :: rest)) := by
  refine va_newa (atype := .long) (ty := .long) (a0 := (N, .inr (.inl (fun _ => 0)))) hexec hb harr rfl hK hP hD hS hA (fun _ => rfl) hn.2 hn.1 hbytes hcells hslots hdg (fun q cA H1 hK1 hP1 hD1 hS1 => ?_)
  have e1 := (hK1.2 4 (cA, .long) rfl).2
  have e2 := (hK.2 0 (k 0, .long) rfl).2
  obtain rfl : cA = k 0 := Option.some.inj (e1.symm.trans e2)
  exact kk q H1 hP1 hD1 hS1
theorem z_newI (hexec : p.tables.exec = Jvm.exec) (hb : c.code = cc) (harr : (Cond.arrayClass .int).before args s = true) (hK : va_K D vwCl (zT k) s) (hP : va_P D vwCl ws H) (hD : va_D A ws) (hS : va_S A H0 H locs) (hA : ∀ q, H0.size ≤ q → A q)
    {n : Int32} (N : Nat) (hn : n.toNatClampNeg = N ∧ ¬ n < 0) (hbytes : N * 4 ≤ 536870912) (hcells : cells + 1 ≤ R.cells) (hslots : slots + N ≤ R.slots) (hdg : decode cc pc = .ok (.newarray .int, 2))
    (kk : ∀ (q : Nat) (H1 : Heap), va_P D vwCl (ws ++ [(q, zaI k N (fun _ => 0))]) H1 → va_D A (ws ++ [(q, zaI k N (fun _ => 0))]) → va_S A H0 H1 locs → W p l e R s m args below meth c H1 locs (cells + 1) (slots + N) Q (F0 m (pc + 2) ls (.ref q :: rest))) : W p l e R s m args below meth c H locs cells slots Q (F0 m pc ls (.int n :: rest)) := by
  refine va_newa (atype := .int) (ty := .int) (a0 := (N, .inl (fun _ => 0))) hexec hb harr rfl hK hP hD hS hA (fun _ => rfl) hn.2 hn.1 hbytes hcells hslots hdg (fun q cA H1 hK1 hP1 hD1 hS1 => ?_)
  have e1 := (hK1.2 4 (cA, .int) rfl).2
  have e2 := (hK.2 1 (k 1, .int) rfl).2
  obtain rfl : cA = k 1 := Option.some.inj (e1.symm.trans e2)
  exact kk q H1 hP1 hD1 hS1
theorem z_newZ (hexec : p.tables.exec = Jvm.exec) (hb : c.code = cc) (harr : (Cond.arrayClass .boolean).before args s = true) (hK : va_K D vwCl (zT k) s) (hP : va_P D vwCl ws H) (hD : va_D A ws) (hS : va_S A H0 H locs) (hA : ∀ q, H0.size ≤ q → A q)
    {n : Int32} (N : Nat) (hn : n.toNatClampNeg = N ∧ ¬ n < 0) (hbytes : N * 1 ≤ 536870912) (hcells : cells + 1 ≤ R.cells) (hslots : slots + N ≤ R.slots) (hdg : decode cc pc = .ok (.newarray .boolean, 2))
    (kk : ∀ (q : Nat) (H1 : Heap), va_P D vwCl (ws ++ [(q, zaZ k N (fun _ => 0))]) H1 → va_D A (ws ++ [(q, zaZ k N (fun _ => 0))]) → va_S A H0 H1 locs → W p l e R s m args below meth c H1 locs (cells + 1) (slots + N) Q (F0 m (pc + 2) ls (.ref q :: rest))) : W p l e R s m args below meth c H locs cells slots Q (F0 m pc ls (.int n :: rest)) := by
  refine va_newa (atype := .boolean) (ty := .boolean) (a0 := (N, .inl (fun _ => 0))) hexec hb harr rfl hK hP hD hS hA (fun _ => rfl) hn.2 hn.1 hbytes hcells hslots hdg (fun q cA H1 hK1 hP1 hD1 hS1 => ?_)
  have e1 := (hK1.2 4 (cA, .boolean) rfl).2
  have e2 := (hK.2 2 (k 2, .boolean) rfl).2
  obtain rfl : cA = k 2 := Option.some.inj (e1.symm.trans e2)
  exact kk q H1 hP1 hD1 hS1
theorem z_mna (hexec : p.tables.exec = Jvm.exec) (hb : c.code = cc) {own : String} {index : Nat} (hown : s.vm.findClass own = some m.cls) (hclink : (Cond.classLink own index ("[" ++ (FieldType.array .long).toString)).before args s = true) (hover : va_AOA .long s) (harr : (Cond.arrayClass .long).before args s = true)
    (hK : va_K D vwCl (zT k) s) (hP : va_P D vwCl ws H) (hD : va_D A ws) (hS : va_S A H0 H locs) (hA : ∀ q, H0.size ≤ q → A q) (hcells : cells + (1 + 3) ≤ R.cells) (hslots : slots + (3 + 3 * 3) ≤ R.slots) (hdg : decode cc pc = .ok (.multianewarray index 2, 4))
    (kk : ∀ (q r0 r1 r2 : Nat) (H1 : Heap), va_P D vwCl (ws ++ [(q, zaG k 3 (gr3 r0 r1 r2)), (r0, zaJ k 3 (fun _ => 0)), (r1, zaJ k 3 (fun _ => 0)), (r2, zaJ k 3 (fun _ => 0))]) H1 → va_D A (ws ++ [(q, zaG k 3 (gr3 r0 r1 r2)), (r0, zaJ k 3 (fun _ => 0)), (r1, zaJ k 3 (fun _ => 0)), (r2, zaJ k 3 (fun _ => 0))]) → va_S A H0 H1 locs →
      W p l e R s m args below meth c H1 locs (cells + 1 + 3) (slots + 3 + 3 * 3) Q (F0 m (pc + 4) ls (.ref q :: rest))) : W p l e R s m args below meth c H locs cells slots Q (F0 m pc ls (.int 3 :: .int 3 :: rest)) := by
  have hcy : s.vm.findClass (FieldType.array .long).toString = some (k 0) := (hK.2 0 (k 0, .long) rfl).2
  have hws : ws ++ va_pl [] (fun _ => zaJ k 3 (fun _ => 0)) = ws := List.append_nil ws
  refine va_mna (X := ws) (L := []) (f := fun _ => zaJ k 3 (fun _ => 0)) (z := (3, .inr (.inl (fun _ => 0)))) (ty := .long) (N' := 3) (K' := 3) hexec hb hown hclink hover harr hcy hK (by rw [hws]; exact hP) (by rw [hws]; exact hD) hS hA (by decide) (by decide) (by decide) (by decide) (by decide) (by decide) (by decide) rfl rfl hcells hslots (fun c => arrV_new c 3 (.long 0)) hdg (fun q r cA H1 hr hr2 hK1 hP1 hD1 hS1 => ?_)
  have e1 := (hK1.2 4 (cA, .array .long) rfl).2
  have e2 := (hK.2 3 (k 3, .array .long) rfl).2
  obtain rfl : cA = k 3 := Option.some.inj (e1.symm.trans e2)
  have el : (ws ++ [(q, (.inl (k 3, 3, .inr (.inr (.inr (.inr (fun i => if i < 3 then some (r i) else none))))) : va_E))]) ++ va_pl ([] ++ (List.range 3).map r) (vr_up (fun _ => zaJ k 3 (fun _ => 0)) ((List.range 3).map r) (.inl (k 0, (3, .inr (.inl (fun _ => 0)))))) = ws ++ [(q, zaG k 3 (fun i => if i < 3 then some (r i) else none)), (r 0, zaJ k 3 (fun _ => 0)), (r 1, zaJ k 3 (fun _ => 0)), (r 2, zaJ k 3 (fun _ => 0))] := by
    have e3 : ([] ++ (List.range 3).map r : List Nat) = [r 0, r 1, r 2] := rfl
    have e4 : (List.range 3).map r = [r 0, r 1, r 2] := rfl
    have h9 : ∀ a, vr_up (fun _ => zaJ k 3 (fun _ => 0)) ((List.range 3).map r) (.inl (k 0, (3, .inr (.inl (fun _ => 0))))) a = zaJ k 3 (fun _ => 0) := fun a => by
      unfold vr_up
      split <;> rfl
    unfold va_pl
    rw [e3, List.append_assoc]
    simp only [List.map_cons, List.map_nil, h9]
    rfl
  rw [el] at hP1 hD1
  have hq : ∀ (w : va_W) (x : Nat × va_E), (w ++ x :: [(r 0, zaJ k 3 (fun _ => 0)), (r 1, zaJ k 3 (fun _ => 0)), (r 2, zaJ k 3 (fun _ => 0))])[w.length]? = some x := fun w x => by simp
  have hset : (ws ++ [(q, zaG k 3 (fun i => if i < 3 then some (r i) else none)), (r 0, zaJ k 3 (fun _ => 0)), (r 1, zaJ k 3 (fun _ => 0)), (r 2, zaJ k 3 (fun _ => 0))]).set ws.length (q, zaG k 3 (gr3 (r 0) (r 1) (r 2))) = ws ++ [(q, zaG k 3 (gr3 (r 0) (r 1) (r 2))), (r 0, zaJ k 3 (fun _ => 0)), (r 1, zaJ k 3 (fun _ => 0)), (r 2, zaJ k 3 (fun _ => 0))] := by simp
  have hP2 := z_congG hP1 ws.length (hq _ _) (g := gr3 (r 0) (r 1) (r 2)) (zall3 rfl rfl rfl) hset
  have hD2 := z_congDG hD1 ws.length (hq _ _) (g := gr3 (r 0) (r 1) (r 2)) hset
  exact kk q (r 0) (r 1) (r 2) H1 hP2 hD2 hS1
end ZNW
