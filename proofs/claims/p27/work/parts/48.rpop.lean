section RQ
variable {E : Ev} {m fu i k : Nat} {A : Enw} {S : St} {y : Ms}
theorem aPop_0 (h : y.2 = 0) (h0 : y.1.2.2.1 = 0) : aPop y = (-2, (y.1, 3)) := by
  unfold aPop
  rw [if_neg (fun z => z h), if_pos h0]
theorem aPop_1 (h : y.2 = 0) (h0 : 0 < y.1.2.2.1) : aPop y = (y.1.2.1 (y.1.2.2.1 - 1), ((y.1.1, y.1.2.1, y.1.2.2.1 - 1, y.1.2.2.2), 0)) := by
  unfold aPop
  rw [if_neg (fun z => z h), if_neg (by omega)]
theorem aPopT_1 {d : Dcl} {ty : Int32} (h : ty ≠ 8) : aPopT d ty y = (aPopC (fun v => fitsA d v ty) y).2 := by
  unfold aPopT
  rw [if_neg h]; rfl
end RQ
