/-! ===== states after calls; the law's start and end ===== -/
def sJ (u : zS) (i : Nat) (f : Nat → Int64) : zS := (fun r => if r = i then f else u.1 r, u.2)
def sI (u : zS) (i : Nat) (f : Nat → Int32) : zS := (u.1, fun r => if r = i then f else u.2.1 r, u.2.2)
def sN (u : zS) (i n : Nat) : zS := (u.1, u.2.1, fun r => if r = i then n else u.2.2.1 r, u.2.2.2)
def sM (u : zS) (i : Nat) (f : Nat → Bool) : zS := (u.1, u.2.1, u.2.2.1, fun r => if r = i then f else u.2.2.2 r)
def sP (u : zS) (j : Nat) (v : Int32) : zS := sI u 11 (upd (u.2.1 11) j v)
theorem ax_nI {a : Int32} (h : zin a 0 2 = true) : ∃ i, i < 3 ∧ a = nI i := by
  have h1 := zin_T h
  obtain ⟨j, hj, e⟩ := nI_of (x := a) (fun q => by have := Int32.lt_iff_toInt_lt.mp q; rw [show (0 : Int32).toInt = 0 by decide] at this; omega)
  subst e
  rw [nI_toInt hj] at h1
  exact ⟨j, by omega, rfl⟩
theorem tk_nI {a : Int32} (h : zin a 1 200 = true) : ∃ t, t ≤ 200 ∧ a = nI t := by
  have h1 := zin_T h
  obtain ⟨j, hj, e⟩ := nI_of (x := a) (fun q => by have := Int32.lt_iff_toInt_lt.mp q; rw [show (0 : Int32).toInt = 0 by decide] at this; omega)
  subst e
  rw [nI_toInt hj] at h1
  exact ⟨j, by omega, rfl⟩
theorem find_or (f : Nat → Int32) (a : Int32) : ∀ n : Nat, (∃ i, i < n ∧ f i = a ∧ ∀ j, j < i → ¬ f j = a) ∨ (∀ j, j < n → ¬ f j = a)
  | 0 => Or.inr (fun j h => absurd h (Nat.not_lt_zero j))
  | n + 1 => by
    rcases find_or f a n with ⟨i, h1, h2⟩ | h
    · exact Or.inl ⟨i, by omega, h2⟩
    · by_cases q : f n = a
      · exact Or.inl ⟨n, by omega, q, h⟩
      · refine Or.inr (fun j hj => ?_)
        rcases Nat.lt_or_ge j n with g | g
        · exact h j g
        · rw [show j = n by omega]
          exact q
section ZLW
variable {p : Program} {l : Launch} {e : Env} {R : Room} {s : State} {m : MethodId} {args : Array Value} {below : List Frame} {meth : Method} {c : Code} {H : Heap} {locs : List Loc} {cells slots : Nat} {Q : State → Prop}
variable {cc : ByteArray} {pc : Nat} {ls : Array Slot} {rest : List Value} {A : Nat → Prop} {H0 : Heap}
theorem z_sld (hexec : p.tables.exec = Jvm.exec) (hb : c.code = cc) {b L : Nat} {xs : Nat → Int32} (hX : va_X b L xs s H0) (hbl : b < H0.size) (hbA : ¬ A b) (hS : va_S A H0 H locs) {i : Int32} (j : Nat) (hi : i.toNatClampNeg = j ∧ ¬ i < 0) (hj : j < L) {v : Int32} (hv : xs j = v) (hdg : decode cc pc = .ok (.iaload, 1))
    (kk : W p l e R s m args below meth c H locs cells slots Q (F0 m (pc + 1) ls (.int v :: rest))) : W p l e R s m args below meth c H locs cells slots Q (F0 m pc ls (.int i :: .ref b :: rest)) :=
  va_sld hexec hb hX hbl hbA hS (zvi hi hj) hdg (by rw [hi.1, hv]; exact kk)
end ZLW
/-- what holds all through the law -/
def lwC (p : Program) (s : State) (m : MethodId) (c : Code) (b L : Nat) (xs : Nat → Int32) (A : Nat → Prop) (D : va_G) (k : Nat → ClassId) (up : Nat) : Prop :=
  p.tables.exec = Jvm.exec ∧ c.code = cL_law ∧ c.maxLocals = 4 ∧ s.vm.findClass RL = some m.cls ∧ (∀ w ∈ lw_tbl, w.before #[Value.ref b] s = true) ∧ va_X b L xs s s.heap ∧ b < s.heap.size ∧ ¬ A b ∧ (∀ q, s.heap.size ≤ q → A q) ∧ va_K D vwCl (zT k) s ∧ zE0 up A s
/-- a number whose square is bounded: the parts of an attitude -/
def nb (q : Nat → Int64) : Prop := (q 0).toInt * (q 0).toInt + (q 1).toInt * (q 1).toInt + (q 2).toInt * (q 2).toInt + (q 3).toInt * (q 3).toInt ≤ 72057602627862528
def zbd (x : Int64) (n : Int) : Prop := -n ≤ x.toInt ∧ x.toInt ≤ n
def zbi (x : Int32) (n : Int) : Prop := -n ≤ x.toInt ∧ x.toInt ≤ n
/-- what stays true of the state -/
def Inv (u : zS) : Prop := (u.2.2.1 0 ≤ 20 ∧ u.2.2.1 1 ≤ 30) ∧ ((∀ i, zbi (u.2.1 0 i) 100000) ∧ (∀ i, zbi (u.2.1 1 i) 10000) ∧ (∀ i, 0 ≤ (u.2.1 2 i).toInt ∧ (u.2.1 2 i).toInt ≤ 10000) ∧ (∀ i, zbi (u.2.1 3 i) 1000) ∧ (∀ i, zbi (u.2.1 4 i) 10000000)) ∧
  ((∀ i, zbi (u.2.1 6 i) 4000000) ∧ (∀ i, zbi (u.2.1 7 i) 4000000) ∧ (∀ i, zbi (u.2.1 8 i) 4000000)) ∧ (∀ i, zbi (u.2.1 9 i) 1000000) ∧ (-40 ≤ (u.2.1 11 0).toInt ∧ (u.2.1 11 0).toInt ≤ 85) ∧ (u.2.1 11 3 = 0 ∨ u.2.1 11 3 = 1 ∨ u.2.1 11 3 = 2) ∧ (0 ≤ (u.2.1 11 4).toInt ∧ (u.2.1 11 4).toInt ≤ 20) ∧
  (run0 (u.2.1 11 6) = true → 0 < (u.2.1 11 7).toInt ∧ (u.2.1 11 6).toInt ≤ (u.2.1 11 7).toInt ∧ (u.2.1 11 7).toInt ≤ 1000 ∧ ∀ j, j < 3 → zbd (u.1 5 j) (((u.2.1 11 7).toInt - (u.2.1 11 6).toInt) * 6000000)) ∧
  (u.1 8 1 = 0 ∧ zbd (u.1 8 0) 65536 ∧ zbd (u.1 8 2) 65536) ∧ (∀ j, u.2.2.2 0 j = false → u.2.1 9 j = 0) ∧ (∀ j, j < 3 → zbd (u.1 4 j) 7000000) ∧ (∀ j, j < 3 → zbd (u.1 7 j) 20000000) ∧ (nb (u.1 0) ∧ nb (u.1 1)) ∧ ∀ i, i < u.2.2.1 1 → nb (pick (u.1 10) i)
def zInv (u : zS) (fQ : Nat → Int32) (fY : Nat → Int64) : Prop := Inv u ∧ (∀ j, u.2.2.2 0 j = true → fQ j = u.2.1 9 j) ∧ (run0 (u.2.1 11 6) = true → fY = u.1 5)
