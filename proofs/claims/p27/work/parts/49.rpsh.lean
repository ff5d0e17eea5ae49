def PrL (l : Nat → Int32) : Prop := ∀ i, i < 12 → (l i = 8 → i + 1 < 12 ∧ l (i + 1) = -3) ∧ (l i = -3 → 0 < i ∧ l (i - 1) = 8)
def PrS (s : Nat → Int32) (h : Nat) : Prop := ∀ i, i < h → (s i = 8 → i + 1 < h ∧ s (i + 1) = -3) ∧ (s i = -3 → 0 < i ∧ s (i - 1) = 8)
section RR
variable {E : Ev} {m fu i k : Nat} {A : Enw} {S : St} {y : Ms}
theorem lo_req {c : Bool} {q : Int32} : (aReq c q y).1 = y.1 := by
  unfold aReq
  split <;> rfl
theorem aPop_2 (h : y.2 = 0) (h0 : 1 < y.1.2.2.1) : aPop (aPop y).2 = (y.1.2.1 (y.1.2.2.1 - 2), ((y.1.1, y.1.2.1, y.1.2.2.1 - 2, y.1.2.2.2), 0)) := by
  rw [aPop_1 h (by omega), aPop_1 rfl (by show 0 < y.1.2.2.1 - 1; omega)]
  rfl
end RR
