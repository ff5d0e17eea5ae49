section RE
variable {E : Ev} {m fu i k : Nat} {A : Enw} {S : St} {y : Ms}
theorem cls_lt {d : Dcl} {b : Nat} (h : cls d b = true) : 2 ≤ b ∧ b < d.1 := by
  simp only [cls, Bool.and_eq_true, decide_eq_true_eq] at h
  exact h.1
theorem mres_ne {d : Dcl} {r : Int32} (h : r = -1 ∨ ∃ n, r = n32 n ∧ isT d n = true) (h1 : r ≠ -1) : svA d r := by
  rcases h with h | ⟨n, h, hn⟩
  · exact absurd h h1
  · rw [h]; exact sv_n hn
end RE
