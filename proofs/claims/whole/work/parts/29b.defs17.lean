/-! ===== the reference's run ===== -/
theorem iter_9 : ∀ (j : Nat) (u : zS), (iterT j u).2.1 9 = u.2.1 9
  | 0, _ => rfl
  | n + 1, u => iter_9 n u
theorem iter_k : ∀ (j : Nat) (u : zS), (iterT j u).2.2.2 0 = u.2.2.2 0
  | 0, _ => rfl
  | n + 1, u => iter_k n u
theorem iter_hq {u : zS} {fQ : Nat → Int32} (hq : ∀ j, u.2.2.2 0 j = true → fQ j = u.2.1 9 j) (i : Nat) : ∀ j, (iterT i u).2.2.2 0 j = true → fQ j = (iterT i u).2.1 9 j := by
  rw [iter_9, iter_k]
  exact hq
theorem tick_hy {v : zS} {fY : Nat → Int64} (hy : run0 (v.2.1 11 6) = true → fY = v.1 5) : run0 ((tickF v).2.1 11 6) = true → add3 (run0 (v.2.1 11 6)) fY (uK v) = (tickF v).1 5 := by
  intro h
  have h1 : run0 (v.2.1 11 6) = true := by
    cases hr : run0 (v.2.1 11 6)
    · have e : (tickF v).2.1 11 6 = v.2.1 11 6 := by
        show uLf v = _
        unfold uLf
        rw [hr]
        rfl
      rw [e, hr] at h
      exact h
    · rfl
  rw [hy h1]
  rfl
theorem mix_z (j : Nat) : (0 : Int32) = mix (u0S.2.1 6) (u0S.2.1 7) (u0S.2.1 8) j := by
  show _ = mix (fun _ => 0) (fun _ => 0) (fun _ => 0) j
  unfold mix
  by_cases h : j % 3 = 0
  · rw [if_pos h]
  · rw [if_neg h]
    by_cases h2 : j % 3 = 1
    · rw [if_pos h2]
    · rw [if_neg h2]
