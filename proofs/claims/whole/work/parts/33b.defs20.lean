/-! ===== the same by a mask ===== -/
def z_msk : List Bool → va_W → va_W → va_W
  | [], ws, _ => ws
  | true :: b, ws, w => match ws, w with
    | _ :: ws, q :: qs => q :: z_msk b ws qs
    | ws, _ => ws
  | false :: b, ws, w => match ws with
    | c :: ws => c :: z_msk b ws w
    | [] => []
def z_sel : List Bool → va_W → va_W
  | [], _ => []
  | true :: b, ws => match ws with
    | c :: ws => c :: z_sel b ws
    | [] => []
  | false :: b, ws => match ws with
    | _ :: ws => z_sel b ws
    | [] => []
theorem z_sel_get : ∀ (b : List Bool) (ws : va_W) (j : Nat) (q : Nat × va_E), (z_sel b ws)[j]? = some q → ∃ k : Nat, ws[k]? = some q ∧ b[k]? = some true
  | [], ws, j, q, h => by simp [z_sel] at h
  | true :: b, [], j, q, h => by simp [z_sel] at h
  | false :: b, [], j, q, h => by simp [z_sel] at h
  | true :: b, c :: ws, j, q, h => by
    cases j with
    | zero => exact ⟨0, by simpa [z_sel] using h, rfl⟩
    | succ j =>
      obtain ⟨k, h1, h2⟩ := z_sel_get b ws j q (by simpa [z_sel] using h)
      exact ⟨k + 1, by simpa using h1, by simpa using h2⟩
  | false :: b, c :: ws, j, q, h => by
    obtain ⟨k, h1, h2⟩ := z_sel_get b ws j q h
    exact ⟨k + 1, by simpa using h1, by simpa using h2⟩
theorem z_msk_get : ∀ (b : List Bool) (ws w : va_W), w.map (fun q => q.1) = (z_sel b ws).map (fun q => q.1) → ∀ (k : Nat) (q : Nat × va_E), (z_msk b ws w)[k]? = some q → (∃ j : Nat, w[j]? = some q) ∨ (ws[k]? = some q ∧ ¬ b[k]? = some true)
  | [], ws, w, _, k, q, h => Or.inr ⟨h, by simp⟩
  | true :: b, [], w, _, k, q, h => by simp [z_msk] at h
  | false :: b, [], w, _, k, q, h => by simp [z_msk] at h
  | true :: b, c :: ws, [], hw, k, q, h => by simp [z_sel] at hw
  | true :: b, c :: ws, x :: w, hw, k, q, h => by
    cases k with
    | zero => exact Or.inl ⟨0, by simpa [z_msk] using h⟩
    | succ k =>
      have hw2 : w.map (fun q => q.1) = (z_sel b ws).map (fun q => q.1) := by
        have h0 : x.1 :: w.map (fun q => q.1) = c.1 :: (z_sel b ws).map (fun q => q.1) := hw
        exact (List.cons.inj h0).2
      rcases z_msk_get b ws w hw2 k q (by simpa [z_msk] using h) with ⟨j, hj⟩ | ⟨h1, h2⟩
      · exact Or.inl ⟨j + 1, by simpa using hj⟩
      · exact Or.inr ⟨by simpa using h1, by simpa using h2⟩
  | false :: b, c :: ws, w, hw, k, q, h => by
    cases k with
    | zero => exact Or.inr ⟨by simpa [z_msk] using h, by simp⟩
    | succ k =>
      rcases z_msk_get b ws w hw k q (by simpa [z_msk] using h) with ⟨j, hj⟩ | ⟨h1, h2⟩
      · exact Or.inl ⟨j, hj⟩
      · exact Or.inr ⟨by simpa using h1, by simpa using h2⟩
theorem z_msk_addr : ∀ (b : List Bool) (ws w : va_W), w.map (fun q => q.1) = (z_sel b ws).map (fun q => q.1) → (z_msk b ws w).map (fun q => q.1) = ws.map (fun q => q.1)
  | [], ws, w, _ => rfl
  | true :: b, [], w, _ => rfl
  | false :: b, [], w, _ => rfl
  | true :: b, c :: ws, [], hw => by simp [z_sel] at hw
  | true :: b, c :: ws, x :: w, hw => by
    have h0 : x.1 :: w.map (fun q => q.1) = c.1 :: (z_sel b ws).map (fun q => q.1) := hw
    have h1 := List.cons.inj h0
    show x.1 :: (z_msk b ws w).map (fun q => q.1) = c.1 :: ws.map (fun q => q.1)
    rw [z_msk_addr b ws w h1.2, h1.1]
  | false :: b, c :: ws, w, hw => by
    show c.1 :: (z_msk b ws w).map (fun q => q.1) = c.1 :: ws.map (fun q => q.1)
    rw [z_msk_addr b ws w hw]
theorem z_joinM {A0 : Nat → Prop} {D : va_G} {cl : List vw_C} {ws wc w1 : va_W} {H H1 : Heap} (hP : va_P D cl ws H) (hD : va_D A0 ws) (b : List Bool) (hsel : z_sel b ws = wc)
    (hk : ∀ q : Nat, q < H.size → ¬ va_A wc H.size q → H1[q]? = H[q]?) (hP1 : va_P D cl w1 H1) (ha : w1.map (fun q => q.1) = wc.map (fun q => q.1)) : va_P D cl (z_msk b ws w1) H1 ∧ va_D A0 (z_msk b ws w1) := by
  subst hsel
  refine ⟨fun k q hq => ?_, va_D_addr (z_msk_addr b ws w1 ha) hD⟩
  rcases z_msk_get b ws w1 ha k q hq with ⟨j, hj⟩ | ⟨h1, h2⟩
  · exact hP1 j q hj
  · refine (hP k q h1).kept (hk q.1 (hP k q h1).lt (fun h => ?_))
    rcases h with ⟨k2, e, h⟩ | h
    · obtain ⟨k3, h3, h4⟩ := z_sel_get b ws k2 (q.1, e) h
      have := hD.1 k k3 q (q.1, e) h1 h3 rfl
      subst this
      exact h2 h4
    · have := (hP k q h1).lt
      omega
section ZCM
variable {p : Program} {l : Launch} {e : Env} {R : Room} {s : State} {m : MethodId} {args : Array Value} {below : List Frame} {meth : Method} {c : Code} {H : Heap} {locs : List Loc} {cells slots : Nat} {Q : State → Prop}
variable {pc : Nat} {ls : Array Slot} {rest st0 : List Value} {a : Array Value} {A0 : Nat → Prop} {H0 : Heap} {D : va_G} {ws wc : va_W} {F : va_W → Prop}
theorem z_callMi {r0 : Int32} (hr : va_Run p l e R s m args below meth c H locs cells slots 0 0 (F0 m pc ls st0) rest (zQi D wc H.size r0 F a) (va_A wc H.size)) (hP : va_P D vwCl ws H) (hD : va_D A0 ws) (hS : va_S A0 H0 H locs) (hA : ∀ q, H0.size ≤ q → A0 q) (isC : List Nat) (hC : isC.map (fun i => ws[i]?) = wc.map some) (b : List Bool) (hsel : z_sel b ws = wc) (adr : List Nat) (hw : wc.map (fun q => q.1) = adr) (ha : ∀ w, F w → w.map (fun q => q.1) = adr)
    (kk : ∀ (w : va_W) (H1 : Heap) (locs1 : List Loc), F w → va_P D vwCl (z_msk b ws w) H1 → va_D A0 (z_msk b ws w) → va_S A0 H0 H1 locs1 → W p l e R s m args below meth c H1 locs1 cells slots Q (F0 m (pc + 3) ls (.int r0 :: rest))) : W p l e R s m args below meth c H locs cells slots Q (F0 m pc ls st0) := by
  have hFc := va_free hD hS hA isC hC
  refine va_calli hr hS (fun q _ h => hFc q h) hFc (fun r w t H1 locs1 ht hvm hw0 hB hz hk hS1 => ?_)
  obtain ⟨rfl, hF⟩ := hw0
  obtain ⟨hP1, hD1⟩ := hB
  rw [ht] at hP1
  obtain ⟨hP2, hD2⟩ := z_joinM hP hD b hsel hk hP1 ((ha w hF).trans hw.symm)
  exact kk w H1 locs1 hF hP2 hD2 hS1
theorem z_callMl {r0 : Int64} (hr : va_Run p l e R s m args below meth c H locs cells slots 0 0 (F0 m pc ls st0) rest (zQl D wc H.size r0 F a) (va_A wc H.size)) (hP : va_P D vwCl ws H) (hD : va_D A0 ws) (hS : va_S A0 H0 H locs) (hA : ∀ q, H0.size ≤ q → A0 q) (isC : List Nat) (hC : isC.map (fun i => ws[i]?) = wc.map some) (b : List Bool) (hsel : z_sel b ws = wc) (adr : List Nat) (hw : wc.map (fun q => q.1) = adr) (ha : ∀ w, F w → w.map (fun q => q.1) = adr)
    (kk : ∀ (w : va_W) (H1 : Heap) (locs1 : List Loc), F w → va_P D vwCl (z_msk b ws w) H1 → va_D A0 (z_msk b ws w) → va_S A0 H0 H1 locs1 → W p l e R s m args below meth c H1 locs1 cells slots Q (F0 m (pc + 3) ls (.long r0 :: rest))) : W p l e R s m args below meth c H locs cells slots Q (F0 m pc ls st0) := by
  have hFc := va_free hD hS hA isC hC
  refine va_calll hr hS (fun q _ h => hFc q h) hFc (fun r w t H1 locs1 ht hvm hw0 hB hz hk hS1 => ?_)
  obtain ⟨rfl, hF⟩ := hw0
  obtain ⟨hP1, hD1⟩ := hB
  rw [ht] at hP1
  obtain ⟨hP2, hD2⟩ := z_joinM hP hD b hsel hk hP1 ((ha w hF).trans hw.symm)
  exact kk w H1 locs1 hF hP2 hD2 hS1
end ZCM
