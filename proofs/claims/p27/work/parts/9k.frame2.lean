theorem cnt_top {tb : Nat → Option Fr} {n : Nat} (h : ∀ i, n ≤ i → tb i = none) : ∀ k, cntT tb (n + k) = cntT tb n
  | 0 => rfl
  | k + 1 => by
    show cntT tb (n + k) + (if (tb (n + k)).isSome = true then 1 else 0) = _
    rw [h (n + k) (by omega), cnt_top h k]
    rfl
theorem cnt_100 {tb : Nat → Option Fr} {n : Nat} (hn : n ≤ 100) (h : ∀ i, n ≤ i → tb i = none) : cntT tb 100 = cntT tb n := by
  have := cnt_top h (100 - n)
  rw [show n + (100 - n) = 100 by omega] at this
  exact this
