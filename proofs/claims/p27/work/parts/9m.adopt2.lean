section ADR
variable {E : Ev} {S S0 : St} {a m a3 fu : Nat} {z : Zs} {tb : Nat → Option Fr} {P : Nat → Prop}
theorem adp_h {ti tb : Nat → Option Fr} (h : Adp ti P tb) {j : Nat} {y : Fr} (e : tb j = some y) : ti j = some y := by
  by_cases p : P j
  · rw [← (h j).1 p]; exact e
  · rw [(h j).2 p] at e; cases e
def AdQ (c : Cd) (j t : Nat) : Prop := (jmp (cop c j) = true ∧ t = (cx c j).toNatClampNeg) ∨ (0 < j ∧ fal (cop c (j - 1)) = false ∧ t = j) ∨ ∃ g, g < chn c ∧ prot c g j = true ∧ t = tgt c g
end ADR
