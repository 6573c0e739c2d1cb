/-! ===== what a run leaves alone ===== -/
theorem iter_r10 : ∀ (j : Nat) (u : zS), (iterT j u).2.1 10 = u.2.1 10
  | 0, _ => rfl
  | n + 1, u => iter_r10 n u
theorem iter_s10 : ∀ (j : Nat) (u : zS), (iterT j u).1 10 = u.1 10
  | 0, _ => rfl
  | n + 1, u => iter_s10 n u
theorem iter_n1 : ∀ (j : Nat) (u : zS), (iterT j u).2.2.1 1 = u.2.2.1 1
  | 0, _ => rfl
  | n + 1, u => iter_n1 n u
