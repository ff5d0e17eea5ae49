section ITE
variable {α : Type} {x y : α}
theorem zi_lt {a b : Nat} (ha : a < 2 ^ 31) (hb : b < 2 ^ 31) : (if n32 a < n32 b then x else y) = (if a < b then x else y) := by
  by_cases h : a < b
  · rw [if_pos h, if_pos (by rw [z_lt ha hb]; exact h)]
  · rw [if_neg h, if_neg (by rw [z_lt ha hb]; exact h)]
theorem zi_le {a b : Nat} (ha : a < 2 ^ 31) (hb : b < 2 ^ 31) : (if n32 a ≤ n32 b then x else y) = (if a ≤ b then x else y) := by
  by_cases h : a ≤ b
  · rw [if_pos h, if_pos (by rw [z_le ha hb]; exact h)]
  · rw [if_neg h, if_neg (by rw [z_le ha hb]; exact h)]
theorem zi_eq {a b : Nat} (ha : a < 2 ^ 31) (hb : b < 2 ^ 31) : (if n32 a = n32 b then x else y) = (if a = b then x else y) := by
  by_cases h : a = b
  · rw [if_pos h, if_pos (by rw [z_eq ha hb]; exact h)]
  · rw [if_neg h, if_neg (by rw [z_eq ha hb]; exact h)]
theorem zi_nlt {n : Nat} (hn : n < 2 ^ 31) : (if n32 n < 0 then x else y) = y := if_neg (by rw [z_nlt hn]; exact id)
theorem zi_ne1 {n : Nat} (hn : n < 2 ^ 31) : (if n32 n = -1 then x else y) = y := if_neg (by rw [z_ne1 hn]; exact id)
theorem bi_0 {b : Bool} : (if b2 b = 0 then x else y) = (if b = false then x else y) := by cases b <;> rfl
theorem bi_1 {b : Bool} : (if b2 b = 1 then x else y) = (if b = true then x else y) := by cases b <;> rfl
end ITE
theorem zd_lt {a b : Nat} (ha : a < 2 ^ 31) (hb : b < 2 ^ 31) : decide (n32 a < n32 b) = decide (a < b) := by
  rw [Bool.eq_iff_iff, decide_eq_true_eq, decide_eq_true_eq, z_lt ha hb]
theorem zd_le {a b : Nat} (ha : a < 2 ^ 31) (hb : b < 2 ^ 31) : decide (n32 a ≤ n32 b) = decide (a ≤ b) := by
  rw [Bool.eq_iff_iff, decide_eq_true_eq, decide_eq_true_eq, z_le ha hb]
