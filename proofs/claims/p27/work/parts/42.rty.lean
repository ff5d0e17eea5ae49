section RTY
variable {E : Ev} {S : St} {m fu : Nat} {d : Dcl}
theorem n32_ge {n : Nat} (hn : n < 2 ^ 31) : decide (0 ≤ n32 n) = true := by
  rw [decide_eq_true_eq, show (0 : Int32) = n32 0 from rfl, z_le (by decide) hn]
  exact Nat.zero_le _
theorem isT_sub {n k : Nat} (hn : isT d n = true) (hk : k ≤ n % 8) : isT d (n - k) = true := by
  rw [isT_iff] at hn ⊢
  omega
end RTY
