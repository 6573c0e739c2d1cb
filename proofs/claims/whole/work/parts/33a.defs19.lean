/-! ===== a call whose cells keep their addresses: they are written back at their places ===== -/
def z_setL : va_W → List Nat → va_W → va_W
  | ws, i :: is, q :: qs => z_setL (ws.set i q) is qs
  | ws, _, _ => ws
theorem z_setL_get : ∀ (is : List Nat) (ws w : va_W), w.length = is.length → ∀ (k : Nat) (q : Nat × va_E), (z_setL ws is w)[k]? = some q → (∃ j : Nat, w[j]? = some q) ∨ (ws[k]? = some q ∧ k ∉ is)
  | [], ws, w, _, k, q, h => Or.inr ⟨by cases w <;> exact h, List.not_mem_nil⟩
  | i :: is, ws, [], hl, k, q, h => by simp at hl
  | i :: is, ws, x :: w, hl, k, q, h => by
    have hl2 : w.length = is.length := by simpa using hl
    rcases z_setL_get is (ws.set i x) w hl2 k q h with ⟨j, hj⟩ | ⟨h1, h2⟩
    · exact Or.inl ⟨j + 1, by simpa using hj⟩
    · by_cases e : i = k
      · subst e
        have hlt : i < (ws.set i x).length := (List.getElem?_eq_some_iff.mp h1).1
        rw [List.length_set] at hlt
        rw [List.getElem?_set_self hlt] at h1
        exact Or.inl ⟨0, by simpa using h1⟩
      · rw [List.getElem?_set_ne e] at h1
        exact Or.inr ⟨h1, fun hm => (List.mem_cons.mp hm).elim (fun q => e q.symm) h2⟩
theorem z_setL_addr : ∀ (is : List Nat) (ws wc w : va_W), is.map (fun i => ws[i]?) = wc.map some → w.map (fun q => q.1) = wc.map (fun q => q.1) → va_nd is = true → (z_setL ws is w).map (fun q => q.1) = ws.map (fun q => q.1)
  | [], ws, wc, w, _, _, _ => by cases w <;> rfl
  | i :: is, ws, [], w, hC, _, _ => by simp at hC
  | i :: is, ws, c :: wc, [], _, hA, _ => by simp at hA
  | i :: is, ws, c :: wc, x :: w, hC, hA, hn => by
    simp only [List.map_cons, List.cons.injEq] at hC hA
    have hni : i ∉ is ∧ va_nd is = true := by
      have h0 : (decide (i ∉ is) && va_nd is) = true := hn
      simpa using h0
    have hset : (ws.set i x).map (fun q => q.1) = ws.map (fun q => q.1) := by
      apply List.ext_getElem?
      intro k
      rw [List.getElem?_map, List.getElem?_map]
      by_cases e : i = k
      · subst e
        rw [List.getElem?_set_self (List.getElem?_eq_some_iff.mp hC.1).1, hC.1]
        exact congrArg some hA.1
      · rw [List.getElem?_set_ne e]
    have hC2 : is.map (fun j => (ws.set i x)[j]?) = wc.map some := by
      rw [← hC.2]
      refine List.map_congr_left (fun j hj => ?_)
      exact List.getElem?_set_ne (fun e => hni.1 (by rw [e]; exact hj))
    show (z_setL (ws.set i x) is w).map (fun q => q.1) = _
    rw [z_setL_addr is (ws.set i x) wc w hC2 hA.2 hni.2, hset]
theorem va_D_addr {A : Nat → Prop} {ws ws2 : va_W} (h : ws2.map (fun q => q.1) = ws.map (fun q => q.1)) (hD : va_D A ws) : va_D A ws2 := by
  have g : ∀ (k : Nat) (q : Nat × va_E), ws2[k]? = some q → ∃ p : Nat × va_E, ws[k]? = some p ∧ p.1 = q.1 := by
    intro k q hk
    have h1 : (ws2.map (fun q => q.1))[k]? = some q.1 := by rw [List.getElem?_map, hk]; rfl
    rw [h, List.getElem?_map] at h1
    cases hp : ws[k]? with
    | none => rw [hp] at h1; cases h1
    | some p => rw [hp] at h1; exact ⟨p, rfl, Option.some.inj h1⟩
  refine ⟨fun i j p q hi hj e => ?_, fun k q hk => ?_⟩
  · obtain ⟨p2, h1, h2⟩ := g i p hi
    obtain ⟨q2, h3, h4⟩ := g j q hj
    exact hD.1 i j p2 q2 h1 h3 (by rw [h2, h4, e])
  · obtain ⟨p, h1, h2⟩ := g k q hk
    rw [← h2]
    exact hD.2 k p h1
theorem z_joinS {A0 : Nat → Prop} {D : va_G} {cl : List vw_C} {ws wc w1 : va_W} {H H1 : Heap} (hP : va_P D cl ws H) (hD : va_D A0 ws) (isC : List Nat) (hC : isC.map (fun i => ws[i]?) = wc.map some) (hn : va_nd isC = true)
    (hk : ∀ q : Nat, q < H.size → ¬ va_A wc H.size q → H1[q]? = H[q]?) (hP1 : va_P D cl w1 H1) (ha : w1.map (fun q => q.1) = wc.map (fun q => q.1)) : va_P D cl (z_setL ws isC w1) H1 ∧ va_D A0 (z_setL ws isC w1) := by
  have hl : w1.length = isC.length := by
    have h1 := congrArg List.length ha
    have h2 := congrArg List.length hC
    simp only [List.length_map] at h1 h2
    omega
  refine ⟨fun k q hq => ?_, va_D_addr (z_setL_addr isC ws wc w1 hC ha hn) hD⟩
  rcases z_setL_get isC ws w1 hl k q hq with ⟨j, hj⟩ | ⟨h1, h2⟩
  · exact hP1 j q hj
  · refine (hP k q h1).kept (hk q.1 (hP k q h1).lt (fun h => ?_))
    rcases h with ⟨k2, e, h⟩ | h
    · have h3 : (isC.map (fun i => ws[i]?))[k2]? = some (some (q.1, e)) := by rw [hC, List.getElem?_map, h]; rfl
      rw [List.getElem?_map] at h3
      cases hi : isC[k2]? with
      | none => rw [hi] at h3; cases h3
      | some i =>
        rw [hi] at h3
        have h4 : ws[i]? = some (q.1, e) := Option.some.inj h3
        have := hD.1 k i q (q.1, e) h1 h4 rfl
        subst this
        exact h2 (List.mem_of_getElem? hi)
    · have := (hP k q h1).lt
      omega
section ZCS
variable {p : Program} {l : Launch} {e : Env} {R : Room} {s : State} {m : MethodId} {args : Array Value} {below : List Frame} {meth : Method} {c : Code} {H : Heap} {locs : List Loc} {cells slots : Nat} {Q : State → Prop}
variable {pc : Nat} {ls : Array Slot} {rest st0 : List Value} {a : Array Value} {A0 : Nat → Prop} {H0 : Heap} {D : va_G} {ws wc : va_W} {F : va_W → Prop}
theorem z_callSi {r0 : Int32} (hr : va_Run p l e R s m args below meth c H locs cells slots 0 0 (F0 m pc ls st0) rest (zQi D wc H.size r0 F a) (va_A wc H.size)) (hP : va_P D vwCl ws H) (hD : va_D A0 ws) (hS : va_S A0 H0 H locs) (hA : ∀ q, H0.size ≤ q → A0 q) (isC : List Nat) (hC : isC.map (fun i => ws[i]?) = wc.map some) (hn : va_nd isC = true) (adr : List Nat) (hw : wc.map (fun q => q.1) = adr) (ha : ∀ w, F w → w.map (fun q => q.1) = adr)
    (kk : ∀ (w : va_W) (H1 : Heap) (locs1 : List Loc), F w → va_P D vwCl (z_setL ws isC w) H1 → va_D A0 (z_setL ws isC w) → va_S A0 H0 H1 locs1 → W p l e R s m args below meth c H1 locs1 cells slots Q (F0 m (pc + 3) ls (.int r0 :: rest))) : W p l e R s m args below meth c H locs cells slots Q (F0 m pc ls st0) := by
  have hFc := va_free hD hS hA isC hC
  refine va_calli hr hS (fun q _ h => hFc q h) hFc (fun r w t H1 locs1 ht hvm hw0 hB hz hk hS1 => ?_)
  obtain ⟨rfl, hF⟩ := hw0
  obtain ⟨hP1, hD1⟩ := hB
  rw [ht] at hP1
  obtain ⟨hP2, hD2⟩ := z_joinS hP hD isC hC hn hk hP1 ((ha w hF).trans hw.symm)
  exact kk w H1 locs1 hF hP2 hD2 hS1
theorem z_callSl {r0 : Int64} (hr : va_Run p l e R s m args below meth c H locs cells slots 0 0 (F0 m pc ls st0) rest (zQl D wc H.size r0 F a) (va_A wc H.size)) (hP : va_P D vwCl ws H) (hD : va_D A0 ws) (hS : va_S A0 H0 H locs) (hA : ∀ q, H0.size ≤ q → A0 q) (isC : List Nat) (hC : isC.map (fun i => ws[i]?) = wc.map some) (hn : va_nd isC = true) (adr : List Nat) (hw : wc.map (fun q => q.1) = adr) (ha : ∀ w, F w → w.map (fun q => q.1) = adr)
    (kk : ∀ (w : va_W) (H1 : Heap) (locs1 : List Loc), F w → va_P D vwCl (z_setL ws isC w) H1 → va_D A0 (z_setL ws isC w) → va_S A0 H0 H1 locs1 → W p l e R s m args below meth c H1 locs1 cells slots Q (F0 m (pc + 3) ls (.long r0 :: rest))) : W p l e R s m args below meth c H locs cells slots Q (F0 m pc ls st0) := by
  have hFc := va_free hD hS hA isC hC
  refine va_calll hr hS (fun q _ h => hFc q h) hFc (fun r w t H1 locs1 ht hvm hw0 hB hz hk hS1 => ?_)
  obtain ⟨rfl, hF⟩ := hw0
  obtain ⟨hP1, hD1⟩ := hB
  rw [ht] at hP1
  obtain ⟨hP2, hD2⟩ := z_joinS hP hD isC hC hn hk hP1 ((ha w hF).trans hw.symm)
  exact kk w H1 locs1 hF hP2 hD2 hS1
end ZCS
