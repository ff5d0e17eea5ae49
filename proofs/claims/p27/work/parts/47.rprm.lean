section RP
variable {E : Ev} {m fu i k : Nat} {A : Enw} {S : St} {y y1 y2 : Ms}
theorem aReq_f {q : Int32} (h : y.2 = 0) : aReq false q y = (y.1, q) := by
  unfold aReq
  rw [if_pos ⟨h, rfl⟩]
end RP
