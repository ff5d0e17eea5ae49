/-! there is no reference here: what its cells would be -/
def LR (_ : Ev) (_ : Nat) : Prop := True
def NRf (_ : Ev) (_ : Nat) : Nat → Prop := fun _ => True
